/-! LAYER 2: calls: sign, end, ohms, put, glows, ghosts -/
def dd (a b wi wj vi vj : Pl) : Bool := disW a wi && disW a vi && disW b wj && disW b vj
theorem dd_i {a b wi wj vi vj : Pl} (h : dd a b wi wj vi vj = true) : disW a wi = true ∧ disW a vi = true ∧ disW b wj = true ∧ disW b vj = true := by
  unfold dd at h; simp only [Bool.and_eq_true] at h; exact ⟨h.1.1.1, h.1.1.2, h.1.2, h.2⟩
theorem IV_k {n : Nat} {B : Bd} {nb : Nat} {I I1 I2 : HI} {J J1 J2 : HJ} {wi wj vi vj : Pl} (h : IV (n + 1) B nb I J) (s1 : Sm wi I I1) (s2 : Sm wj J J1) (t1 : Sm vi I1 I2) (t2 : Sm vj J1 J2) :
    (dd rdXBi rdXBj wi wj vi vj = true → XB B I2 J2) ∧ (dd rdMB [] wi wj vi vj = true → MB B I2) ∧ (dd rdText [] wi wj vi vj = true → CText I2) ∧ (dd rdNi rdNj wi wj vi vj = true → CNote B I2 J2) ∧ (dd rdTi rdTj wi wj vi vj = true → CTold I2 J2) ∧ (dd rdPi [] wi wj vi vj = true → CPlan B I2) ∧ (dd rdK0i rdK0j wi wj vi vj = true → KP0 B nb I2 J2) ∧ (dd rdK1i rdK1j wi wj vi vj = true → KP1 B nb I2 J2) ∧ (dd rdTbi rdTbj wi wj vi vj = true → CTab B I2 J2) ∧ (dd [(x_flow, some f_Flow_watched)] [(x_flow, some f_Flow_lit), (x_flow_light, none)] wi wj vi vj = true → CFlow I2 J2) ∧ (dd rdMo [] wi wj vi vj = true → CMod I2) ∧ (dd [(m_self, some f_Model_boards)] [] wi wj vi vj = true → CBds n nb I2) := by
  obtain ⟨h1, h2, h3, h4, h5, h6, h7, h8, h9, h10, h11, h12, h13⟩ := h
  refine ⟨fun d => ?_, fun d => ?_, fun d => ?_, fun d => ?_, fun d => ?_, fun d => ?_, fun d => ?_, fun d => ?_, fun d => ?_, fun d => ?_, fun d => ?_, fun d => ?_⟩ <;> obtain ⟨d1, d2, d3, d4⟩ := dd_i d
  · exact h2.keep (Ag.two s1 t1 d1 d2) (Ag.two s2 t2 d3 d4)
  · exact h3.keep (Ag.two s1 t1 d1 d2)
  · exact h4.keep (Ag.two s1 t1 d1 d2)
  · exact h5.keep (Ag.two s1 t1 d1 d2) (Ag.two s2 t2 d3 d4)
  · exact h6.keep (Ag.two s1 t1 d1 d2) (Ag.two s2 t2 d3 d4)
  · exact h7.keep (Ag.two s1 t1 d1 d2)
  · exact h8.keep (Ag.two s1 t1 d1 d2) (Ag.two s2 t2 d3 d4)
  · exact h9.keep (Ag.two s1 t1 d1 d2) (Ag.two s2 t2 d3 d4)
  · exact h10.keep (Ag.two s1 t1 d1 d2) (Ag.two s2 t2 d3 d4)
  · exact h11.keep (Ag.two s1 t1 d1 d2) (Ag.two s2 t2 d3 d4)
  · exact h12.keep (Ag.two s1 t1 d1 d2)
  · exact h13.keep (Ag.two s1 t1 d1 d2)
theorem OP0 (n : Nat) (b : Bool) (I : HI) (J : HJ) (a1 a2 a3 a4 : Int32) (h : Iv (n + 1) b I J) : Op0 (Iv n) b I J a1 a2 a3 a4 := by
  obtain ⟨B, nb, h⟩ := h
  obtain ⟨r, I1, J1, I2, J2, e1, e2, hT⟩ := O0 a1 I J h.2.2.2.1
  obtain ⟨s1, s2⟩ := fr_X11_sign a1 I J _ _ _ e1
  obtain ⟨t1, t2⟩ := fr_X12_sign a1 I1 J1 _ _ _ e2
  obtain ⟨kX, kM, _, kN, kTo, kP, k0, k1, kTb, kF, kMo, kB⟩ := IV_k h s1 s2 t1 t2
  exact ⟨r, I1, J1, I2, J2, e1, e2, B, nb, h.1, kX (by decide), kM (by decide), hT, kN (by decide), kTo (by decide), kP (by decide), k0 (by decide), k1 (by decide), kTb (by decide), kF (by decide), kMo (by decide), kB (by decide)⟩
theorem OP1 (n : Nat) (b : Bool) (I : HI) (J : HJ) (a1 a2 a3 a4 : Int32) (h : Iv (n + 1) b I J) : Op1 (Iv n) b I J a1 a2 a3 a4 := by
  obtain ⟨B, nb, h⟩ := h
  obtain ⟨r, I1, J1, I2, J2, e1, e2, hT⟩ := O1 a1 I J h.2.2.2.1
  obtain ⟨s1, s2⟩ := fr_X11_end a1 I J _ _ _ e1
  obtain ⟨t1, t2⟩ := fr_X12_end a1 I1 J1 _ _ _ e2
  obtain ⟨kX, kM, _, kN, kTo, kP, k0, k1, kTb, kF, kMo, kB⟩ := IV_k h s1 s2 t1 t2
  exact ⟨r, I1, J1, I2, J2, e1, e2, B, nb, h.1, kX (by decide), kM (by decide), hT, kN (by decide), kTo (by decide), kP (by decide), k0 (by decide), k1 (by decide), kTb (by decide), kF (by decide), kMo (by decide), kB (by decide)⟩
/-- nothing but what the reference threw has changed -/
theorem IV_th {n : Nat} {B : Bd} {nb : Nat} {I I2 : HI} {J J2 : HJ} {b : Bool} (h : IV (n + 1) B nb I J) (t1 : Sm [(m_self, some f_Model_thrown)] I I2) (t2 : Sm [(o_out, none)] J J2) : Iv n b I2 J2 := by
  obtain ⟨kX, kM, kTx, kN, kTo, kP, k0, k1, kTb, kF, kMo, kB⟩ := IV_k h (Sm.rf (w := [])) (Sm.rf (w := [])) t1 t2
  exact ⟨B, nb, h.1, kX (by decide), kM (by decide), kTx (by decide), kN (by decide), kTo (by decide), kP (by decide), k0 (by decide), k1 (by decide), kTb (by decide), kF (by decide), kMo (by decide), kB (by decide)⟩
theorem th_s (I : HI) (v : Int32) : Sm [(m_self, some f_Model_thrown)] I (ui I m_self f_Model_thrown v) := Sm.mi rfl Sm.rf
theorem OP5 (n : Nat) (b : Bool) (I : HI) (J : HJ) (a1 a2 a3 a4 : Int32) (h : Iv (n + 1) b I J) : Op5 (Iv n) b I J a1 a2 a3 a4 := by
  obtain ⟨B, nb, h⟩ := h
  have hW := h.1.2.1
  have hX := h.2.1
  have hM := h.2.2.1
  have hM' : MB B (ui I m_self f_Model_thrown 0) := hM.keep (Ag.of (th_s I 0) (by decide))
  unfold Op5 F_X11_ohms F_X12_ohms
  simp only [lb]
  rcases i_case a1 (bW B) (by omega) with ⟨i, hi, rfl⟩ | ⟨hn, _⟩
  · refine ⟨nI (bO B i), ui I m_self f_Model_thrown 0, J, ?_, ?_, IV_th h (th_s I 0) Sm.rf⟩
    · rw [(X0_hasWire (by omega) hX.1).1 ⟨i, hi, rfl⟩]
      simp (disch := omega) only [cp, Option.bind_some, n_bx, n_cl, hX.2.2.2.2.2.1 i (by omega)]
      rw [if_neg (by decide)]
    · rw [(X12_isWire (by omega) hM'.1).1 ⟨i, hi, rfl⟩]
      simp (disch := omega) only [cp, Option.bind_some, n_bx, n_cl, hM'.2.2.2.2.2.1 i (by omega)]
      rw [if_neg (by decide)]
  · refine ⟨-1, ui I m_self f_Model_thrown 0, J, ?_, ?_, IV_th h (th_s I 0) Sm.rf⟩
    · rw [(X0_hasWire (by omega) hX.1).2 hn]
      simp only [cp, Option.bind_some]
      rw [if_pos (by decide)]
    · rw [(X12_isWire (by omega) hM'.1).2 hn]
      simp only [cp, Option.bind_some]
      rw [if_pos (by decide)]
theorem cl_some {τ : Type} (f : Option (τ × HI × HJ)) : (cl f fun r I J => some (r, I, J)) = f := by
  unfold cl
  cases f with
  | none => rfl
  | some q => rfl
theorem X1_glowingF {B : Bd} (hB : OkB B) (h l : Int32) (hd : okS (bi h) (bi l)) (I : HI) (J : HJ) (hX : XB B I J) (hF : CFlow I J) : Ok (F_X1_glowing h l I J) (gQ B none 0 h l) := by
  have := X1_glowing hB none trivial h l hd I J hX hF.1 hF.wt
  unfold F_X1_glowing
  simp only [cl_some]
  exact this
theorem gQ_flow {B : Bd} (hB : OkB B) {f : Nat} (hf : f < nF B) {h l : Int32} (hd : okS (bi h) (bi l)) {q : Int64 × HI × HJ} (hq : gQ B none f h l q) : CFlow q.2.1 q.2.2 := ⟨RX_lit (B := B) hq.2 (ptF_ok hB hf hd).1, hq.2.2.2.2.1⟩
theorem nF_0 (B : Bd) : 0 < nF B := by unfold nF; omega
theorem X0_asked {B : Bd} (hB : OkB B) (h l : Int32) (I : HI) (J : HJ) (hX : XB B I J) : F_X0_asked h l I J = some (asS B (bi h) (bi l)) := by
  have hW := hB.2.1
  have h60 := hB.2.2.1
  obtain ⟨x1, _, _, _, _, _, _, x8⟩ := hX
  unfold F_X0_asked
  have hl : ∀ K i, i ≤ bW B → bW B - i < K → ∀ x y, (∀ k, bt x k = (decide (k < bL B) && bi h (bA B k) && decide (bA B k < i))) → (∀ k, bt y k = (decide (k < bL B) && bi l (bG B k) && decide (bG B k < i))) → F_X0_asked_L8 h l I J (fun (y11 : Int64) (y12 : Int64) => some (y11 &&& y12)) K x y (nI i) = some (asS B (bi h) (bi l)) := by
    refine up ?_ ?_
    · intro K x y hx hy
      rw [F_X0_asked_L8, if_pos (by rw [x1, n_le] <;> omega)]
      congr 1
      apply bt_ext
      intro k _
      unfold asS
      rw [bt_and, hx, hy, stN_b (by omega)]
      by_cases c : k < bL B
      · obtain ⟨g1, g2, _⟩ := hB.2.2.2.2.2.2.2.2.2 k c
        simp [c, g1, g2]
      · simp [c]
    · intro K i hi ih x y hx hy
      rw [F_X0_asked_L8, if_neg (by rw [x1, n_le] <;> omega)]
      simp (disch := omega) only [lb, lit32, litL, t_iu, if10, n_bx, n_cl, nI_1, nI_add]
      have key : ∀ x' y', (∀ k, bt x' k = (bi h i && bt (J x_board_out i) k)) → (∀ k, bt y' k = (bi l i && bt (J x_board_into i) k)) → F_X0_asked_L8 h l I J (fun (y11 : Int64) (y12 : Int64) => some (y11 &&& y12)) K (x ||| x') (y ||| y') (nI (i + 1)) = some (asS B (bi h) (bi l)) := by
        intro x' y' hx' hy'
        refine ih _ _ (fun k => ?_) (fun k => ?_)
        · rw [bt_or, hx, hx', (x8 i (by omega) k).1]
          by_cases c : bA B k = i
          · have : ¬ bA B k < i := by omega
            have t : bA B k < i + 1 := by omega
            rw [c] at this t ⊢
            simp [this, t, Bool.and_comm]
          · by_cases d : bA B k < i
            · have : bA B k < i + 1 := by omega
              simp [c, d, this]
            · have : ¬ bA B k < i + 1 := by omega
              simp [c, d, this]
        · rw [bt_or, hy, hy', (x8 i (by omega) k).2]
          by_cases c : bG B k = i
          · have : ¬ bG B k < i := by omega
            have t : bG B k < i + 1 := by omega
            rw [c] at this t ⊢
            simp [this, t, Bool.and_comm]
          · by_cases d : bG B k < i
            · have : bG B k < i + 1 := by omega
              simp [c, d, this]
            · have : ¬ bG B k < i + 1 := by omega
              simp [c, d, this]
      cases ch : bi h i <;> cases cl' : bi l i <;> simp only [Bool.true_eq_false, if_true, if_false]
      · exact key _ _ (fun k => by rw [bt_z, ch]; rfl) (fun k => by rw [bt_z, cl']; rfl)
      · exact key _ _ (fun k => by rw [bt_z, ch]; rfl) (fun k => by rw [cl']; simp)
      · exact key _ _ (fun k => by rw [ch]; simp) (fun k => by rw [bt_z, cl']; rfl)
      · exact key _ _ (fun k => by rw [ch]; simp) (fun k => by rw [cl']; simp)
  exact hl bgf 0 (by omega) (by unfold bgf; omega) (lN 0) (lN 0) (fun k => by rw [bt_z]; simp) (fun k => by rw [bt_z]; simp)
theorem X12_askedFor {B : Bd} (hB : OkB B) (h l : Int32) (I : HI) (J : HJ) (hM : MB B I) : F_X12_askedFor h l I J = some (asS B (bi h) (bi l)) := by
  have hW := hB.2.1
  have h60 := hB.2.2.1
  unfold F_X12_askedFor
  have hl : ∀ K i, i ≤ bL B → bL B - i < K → F_X12_askedFor_L5 h l I J K (stN i (fun k => bi h (bA B k) && bi l (bG B k))) (nI i) = some (asS B (bi h) (bi l)) := by
    refine up ?_ ?_
    · intro K
      rw [F_X12_askedFor_L5, if_pos (by rw [hM.2.1, n_le] <;> omega)]; rfl
    · intro K i hi ih
      obtain ⟨m1, m2, _⟩ := hM.2.2.2.2.2.2 i hi
      obtain ⟨g1, g2, _⟩ := hB.2.2.2.2.2.2.2.2.2 i hi
      rw [F_X12_askedFor_L5, if_neg (by rw [hM.2.1, n_le] <;> omega)]
      simp (disch := omega) only [lb, lit32, litL, n_bx, n_cl, m1, m2, t_hasI, cp, Option.bind_some, if10, nI_1, nI_add]
      rw [stN_s] at ih
      have z : ∀ x : Int64, x ||| lN 0 = x := fun x => by apply bt_ext; intro k _; rw [bt_or, bt_z, Bool.or_false]
      cases c1 : bi h (bA B i) <;> cases c2 : bi l (bG B i) <;> simp only [Bool.true_eq_false, if_true, if_false, z] <;> rw [c1, c2] at ih <;> simpa using ih
  exact hl bgf 0 (by omega) (by unfold bgf; omega)
theorem OP8 (n : Nat) (b : Bool) (I : HI) (J : HJ) (a1 a2 a3 a4 : Int32) (h : Iv (n + 1) b I J) : Op8 (Iv n) b I J a1 a2 a3 a4 := by
  obtain ⟨B, nb, h⟩ := h
  have hB := h.1
  have hW := hB.2.1
  have hX := h.2.1
  have hM := h.2.2.1
  rcases X0_hasSetting (J := J) (h := a1) (l := a2) hW hX.1 with ⟨ok, e⟩ | ⟨nk, e⟩
  · have hX' : XB B (ui (ui I x_notes f_Notes_high a1) x_notes f_Notes_low a2) J := hX.keep (Ag.of (w := [(x_notes, none)]) (Sm.mi rfl (Sm.mi rfl Sm.rf)) (by decide)) (fun _ _ _ => rfl)
    have hF' : CFlow (ui (ui I x_notes f_Notes_high a1) x_notes f_Notes_low a2) J := h.2.2.2.2.2.2.2.2.2.2.1.keep (Ag.of (w := [(x_notes, none)]) (Sm.mi rfl (Sm.mi rfl Sm.rf)) (by decide)) (fun _ _ _ => rfl)
    refine bothF (P := fun q => q.1 = nI (pc (gwF B 0 (bi a1) (bi a2))) ∧ CFlow q.2.1 q.2.2 ∧ q.2.1 x_notes f_Notes_high = a1 ∧ q.2.1 x_notes f_Notes_low = a2) ?_ (fr_X11_put a1 a2 I J) (fun I1 J1 => fr_X12_put a1 a2 I1 J1) ?_
    · unfold F_X11_put
      rw [e]
      refine Ok.cpe rfl (Ok.f (by decide) (Ok.lbv (Ok.lbv ?_)))
      refine Ok.call ((X1_glowingF hB a1 a2 ok.1 _ J hX' hF').fo (fr_X1_glowing _ _ _ _)) (fun r I1 J1 _ hP => ?_)
      obtain ⟨q1, q2, q3⟩ := hP
      have hfl := gQ_flow hB (nF_0 B) ok.1 q1
      simp only at q2 q3 hfl
      have qr : r = gwF B 0 (bi a1) (bi a2) := q1.1
      rw [qr, bcN]
      refine Ok.cpe rfl (Ok.mk ⟨rfl, hfl, ?_, ?_⟩) <;> dsimp only
      · rw [q2 _ _ rfl, ui_j (by decide), ui_r]
      · rw [q2 _ _ rfl, ui_r]
    · intro r I1 J1 hP s1 s2
      obtain ⟨hr, hF1, hh, hl⟩ := hP
      simp only at hr hF1 hh hl
      have hM1 : MB B I1 := hM.keep (Ag.of s1 (by decide))
      have hMo1 : CMod I1 := h.2.2.2.2.2.2.2.2.2.2.2.1.keep (Ag.of s1 (by decide))
      have sT : Sm [(m_self, some f_Model_thrown), (m_self, some f_Model_shownHigh), (m_self, some f_Model_shownLow)] I1 (ui (ui (ui I1 m_self f_Model_thrown 0) m_self f_Model_shownHigh a1) m_self f_Model_shownLow a2) := Sm.mi rfl (Sm.mi rfl (Sm.mi rfl Sm.rf))
      unfold F_X12_put
      refine Ok.lbv ?_
      rw [(X12_isSetting (J := J1) hW (by rw [ui_j (by decide)]; exact hM1.1)).1 ok]
      refine Ok.cpe rfl (Ok.f (by decide) (Ok.lbv (Ok.lbv ?_)))
      have hM2 : MB B (ui (ui (ui I1 m_self f_Model_thrown 0) m_self f_Model_shownHigh a1) m_self f_Model_shownLow a2) := hM1.keep (Ag.of sT (by decide))
      have hMo2 : CMod (ui (ui (ui I1 m_self f_Model_thrown 0) m_self f_Model_shownHigh a1) m_self f_Model_shownLow a2) := hMo1.keep (Ag.of sT (by decide))
      refine Ok.call ((X12_glowWith hB (nF_0 B) none trivial a1 a2 ok.1 _ J1 hM2 hMo2.c0).fo (fr_X12_glowingWith _ _ _ _ _)) (fun r' I3 J3 _ hP => ?_)
      obtain ⟨q1, q2, q3⟩ := hP
      simp only at q1 q2 q3
      rw [q1, bcN]
      refine Ok.cpe rfl (Ok.mk ⟨hr.symm, fun t1 t2 => ?_⟩)
      dsimp only at t1 t2 ⊢
      obtain ⟨kX, kM, kTx, _, kTo, kP, k0, k1, kTb, _, kMo, kB⟩ := IV_k h s1 s2 t1 t2
      refine ⟨B, nb, hB, kX (by decide), kM (by decide), kTx (by decide), ?_, kTo (by decide), kP (by decide), k0 (by decide), k1 (by decide), kTb (by decide), hF1.keep (Ag.of t1 (by decide)) (Ag.of t2 (by decide)), kMo (by decide), kB (by decide)⟩
      obtain ⟨n1, n2, n3, n4, m, n5, n6, n7, n8⟩ := h.2.2.2.2.1
      refine ⟨?_, ?_, ?_, fun i hi => ?_, m, n5, ?_, ?_, fun k hk => ?_⟩
      · rw [q2 _ _ rfl, ui_j (by decide), ui_r, t1 _ _ rfl, hh]
      · rw [q2 _ _ rfl, ui_r, t1 _ _ rfl, hl]
      · rw [t1 _ _ rfl, t1 _ _ rfl, hh, hl]; exact ok
      · rw [t2 _ _ rfl, t2 _ _ rfl, s2 _ _ rfl, s2 _ _ rfl]; exact n4 i hi
      · rw [t1 _ _ rfl, s1 _ _ rfl]; exact n6
      · rw [t1 _ _ rfl, s1 _ _ rfl]; exact n7
      · rw [t1 _ _ rfl, t1 _ _ rfl, t1 _ _ rfl, t1 _ _ rfl, t2 _ _ rfl, t2 _ _ rfl, s1 _ _ rfl, s1 _ _ rfl, s1 _ _ rfl, s1 _ _ rfl, s2 _ _ rfl, s2 _ _ rfl]; exact n8 k hk
  · refine ⟨-1, I, J, ui I m_self f_Model_thrown 0, J, ?_, ?_, IV_th h (th_s I 0) Sm.rf⟩
    · unfold F_X11_put
      rw [e]; rfl
    · unfold F_X12_put
      simp only [lb]
      rw [(X12_isSetting (J := J) hW (by rw [ui_j (by decide)]; exact hM.1)).2 nk]; rfl

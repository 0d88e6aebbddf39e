/-! LAYER 2: range -/
def rgB (B : Bd) (s : Nat) : Bd := ub B 0 2 s
theorem rgB_ok {B : Bd} (hB : OkB B) {s : Nat} (h1 : 1 ≤ s) (h2 : s ≤ 20) : OkB (rgB B s) := ⟨hB.1, hB.2.1, hB.2.2.1, h1, h2, hB.2.2.2.2.2.1, hB.2.2.2.2.2.2.1, hB.2.2.2.2.2.2.2.1, hB.2.2.2.2.2.2.2.2.1, hB.2.2.2.2.2.2.2.2.2⟩
theorem rgB_self (B : Bd) : rgB B (bS B) = B := by
  funext a j
  unfold rgB ub
  split
  · rename_i h; rw [h.1, h.2]
  · rfl
theorem rgB_X {B : Bd} {s k : Nat} {I : HI} {J : HJ} (h : XB (rgB B s) I J) : XB (rgB B k) (ui I x_board f_Board_supply (nI k)) J := by
  obtain ⟨h1, h2, h3, h4, h5, h6, h7, h8⟩ := h
  exact ⟨by rw [ui_j (by decide)]; exact h1, by rw [ui_j (by decide)]; exact h2, by rw [ui_r]; rfl, by rw [ui_j (by decide)]; exact h4, by rw [ui_j (by decide)]; exact h5, fun w hw => by rw [ui_c (by decide)]; exact h6 w hw, fun l hl => by rw [ui_c (by decide), ui_c (by decide), ui_c (by decide)]; exact h7 l hl, h8⟩
theorem rgB_M {B : Bd} {s k : Nat} {I : HI} (h : MB (rgB B s) I) : MB (rgB B k) (ui I m_sets 0 (nI k)) := by
  obtain ⟨h1, h2, h3, h4, h5, h6, h7⟩ := h
  exact ⟨by rw [ui_c (by decide)]; exact h1, by rw [ui_c (by decide)]; exact h2, by rw [ui_r]; rfl, by rw [ui_j (by decide)]; exact h4, by rw [ui_j (by decide)]; exact h5, fun w hw => by rw [ui_c (by decide)]; exact h6 w hw, fun l hl => by rw [ui_c (by decide), ui_c (by decide), ui_c (by decide)]; exact h7 l hl⟩
def rgS (B : Bd) (h l : Int32) (g : Int64) (k : Nat) : Int32 := (List.range k).foldl (fun x s => if s = 0 then x else if gwF (rgB B s) 0 (bi h) (bi l) = g then x ||| oshl 1 (nI s) else x) 0
theorem rgS_s (B : Bd) (h l : Int32) (g : Int64) {k : Nat} (hk : 1 ≤ k) : rgS B h l g (k + 1) = if gwF (rgB B k) 0 (bi h) (bi l) = g then rgS B h l g k ||| oshl 1 (nI k) else rgS B h l g k := by
  unfold rgS; rw [List.range_succ, List.foldl_append]
  simp only [List.foldl_cons, List.foldl_nil]
  rw [if_neg (by omega)]
theorem rgS_1 (B : Bd) (h l : Int32) (g : Int64) : rgS B h l g 1 = 0 := rfl
theorem X11_range_L {B : Bd} (hB : OkB B) (h l : Int32) (hd : okS (bi h) (bi l)) (g : Int64) (x5 : Int32) {kx : Int32 → HI → HJ → Option (Int32 × HI × HJ)} {Q : Int32 × HI × HJ → Prop} (hx : ∀ I J s, XB (rgB B s) I J → CFlow I J → Ok (kx (rgS B h l g 21) I J) Q) : ∀ K k, k ≤ 21 → 21 - k < K → 1 ≤ k → ∀ s I J, XB (rgB B s) I J → CFlow I J → Ok (F_X11_range_L39 h l g x5 kx K (rgS B h l g k) (nI k) I J) Q := by
  refine up ?_ ?_
  · intro K _ s I J hX hF
    rw [F_X11_range_L39]
    exact Ok.t (show (20 : Int32) < nI 21 by decide) (hx I J s hX hF)
  · intro K k hk ih h1 s I J hX hF
    rw [F_X11_range_L39]
    have c : ¬ (20 : Int32) < nI k := (by rw [n_lt (by omega) (by omega)]; omega : ¬ nI 20 < nI k)
    refine Ok.f c (Ok.lbv ?_)
    have hok := rgB_ok hB h1 (s := k) (by omega)
    refine Ok.call ((X1_glowingF hok h l hd _ J (rgB_X hX) (hF.keep (Ag.of (w := [(x_board, none)]) (Sm.mi rfl Sm.rf) (by decide)) (fun _ _ _ => rfl))).fo (fr_X1_glowing _ _ _ _)) (fun r I1 J1 _ hP => ?_)
    obtain ⟨q1, q2, q3⟩ := hP
    have hfl := gQ_flow hok (nF_0 _) hd q1
    simp only at q2 q3 hfl
    have qr : r = gwF (rgB B k) 0 (bi h) (bi l) := q1.1
    have hX1 : XB (rgB B k) I1 J1 := (rgB_X hX).keep (Ag.of q2 (by decide)) (Ag.of q3 (by decide))
    have ih' := ih (by omega) k I1 J1 hX1 hfl
    rw [rgS_s B h l g h1] at ih'
    rw [qr]
    refine Ok.lbv ?_
    rw [nI_1]
    by_cases e : gwF (rgB B k) 0 (bi h) (bi l) = g
    · rw [if_pos e] at ih'
      exact Ok.t (lc0.mpr e) (Ok.lbv ih')
    · rw [if_neg e] at ih'
      exact Ok.f (fun h0 => e (lc0.mp h0)) ih'
def rdLd : Pl := [(m_self, some f_Model_laidKind), (m_self, some f_Model_laidA), (m_self, some f_Model_laidB), (m_listFrom, none), (m_list, none), (m_goesTo, none)]
theorem X12_range_L {B : Bd} (hB : OkB B) (h l : Int32) (hd : okS (bi h) (bi l)) (g : Int64) (x5 : Int32) {kx : Int32 → HI → HJ → Option (Int32 × HI × HJ)} {Q : Int32 × HI × HJ → Prop} (hx : ∀ I J s, MB (rgB B s) I → CMod I → Ok (kx (rgS B h l g 21) I J) Q) : ∀ K k, k ≤ 21 → 21 - k < K → 1 ≤ k → ∀ s I J, MB (rgB B s) I → CMod I → LD B (ftK (bW B) 0) (ftA (bW B) 0) (ftB (bW B) 0) I → Ok (F_X12_range_L38 h l g x5 kx K (rgS B h l g k) (nI k) I J) Q := by
  refine up ?_ ?_
  · intro K _ s I J hM hMo hL
    rw [F_X12_range_L38]
    exact Ok.t (show (20 : Int32) < nI 21 by decide) (hx I J s hM hMo)
  · intro K k hk ih h1 s I J hM hMo hL
    rw [F_X12_range_L38]
    have c : ¬ (20 : Int32) < nI k := (by rw [n_lt (by omega) (by omega)]; omega : ¬ nI 20 < nI k)
    refine Ok.f c (Ok.bxe (a := 0) (by omega) (by omega) (Ok.lbv ?_))
    rw [show Int32.toNatClampNeg (0 : Int32) = 0 from rfl]
    have hok := rgB_ok hB h1 (s := k) (by omega)
    have s0 : Sm [(m_sets, none)] I (ui I m_sets 0 (nI k)) := Sm.mi rfl Sm.rf
    have hL0 : LD (rgB B k) (ftK (bW B) 0) (ftA (bW B) 0) (ftB (bW B) 0) (ui I m_sets 0 (nI k)) := LD.keep (B := rgB B k) hL (Ag.of s0 (by decide))
    have hMo0 : CMod (ui I m_sets 0 (nI k)) := hMo.keep (Ag.of s0 (by decide))
    refine Ok.call ((X12_glowing hok (nF_0 _) none trivial h l hd _ J (rgB_M hM) hL0 hMo0.c0).fo (fr_X12_glowing _ _ _ _)) (fun r I1 J1 _ hP => ?_)
    obtain ⟨q1, q2, q3⟩ := hP
    simp only at q1 q2 q3
    have hM1 : MB (rgB B k) I1 := (rgB_M hM).keep (Ag.of q2 (by decide))
    have ih' := ih (by omega) k I1 J1 hM1 (hMo0.keep (Ag.of q2 (by decide))) (LD.keep (B := B) hL0 (Ag.of q2 (by decide)))
    rw [rgS_s B h l g h1] at ih'
    rw [q1.1]
    refine Ok.lbv ?_
    rw [nI_1]
    by_cases e : gwF (rgB B k) 0 (bi h) (bi l) = g
    · rw [if_pos e] at ih'
      exact Ok.t (lc0.mpr e) (Ok.lbv ih')
    · rw [if_neg e] at ih'
      refine Ok.f (fun h0 => e (lc0.mp h0)) (Ok.lbv ?_)
      rw [show ∀ x : Int32, x ||| 0 = x from fun x => Int32.or_zero]
      exact ih'

theorem OP22 (n : Nat) (b : Bool) (I : HI) (J : HJ) (a1 a2 a3 a4 : Int32) (h : Iv (n + 1) b I J) : Op22 (Iv n) b I J a1 a2 a3 a4 := by
  obtain ⟨B, nb, h⟩ := h
  have hB := h.1
  have hW := hB.2.1
  have hX := h.2.1
  have hM := h.2.2.1
  rcases X0_hasSetting (J := J) (h := a1) (l := a2) hW hX.1 with ⟨ok, e⟩ | ⟨nk, e⟩
  · refine bothF (P := fun q => q.1 = rgS B a1 a2 (gwF B 0 (bi a1) (bi a2)) 21 ∧ CFlow q.2.1 q.2.2 ∧ XB B q.2.1 q.2.2) ?_ (fr_X11_range a1 a2 I J) (fun I1 J1 => fr_X12_range a1 a2 I1 J1) ?_
    · unfold F_X11_range
      refine Ok.cpe e (Ok.f (by decide) ?_)
      refine Ok.call ((X1_glowingF hB a1 a2 ok.1 _ J hX h.2.2.2.2.2.2.2.2.2.2.1).fo (fr_X1_glowing _ _ _ _)) (fun r I1 J1 _ hP => ?_)
      obtain ⟨q1, q2, q3⟩ := hP
      have hfl := gQ_flow hB (nF_0 B) ok.1 q1
      simp only at q2 q3 hfl
      have qr : r = gwF B 0 (bi a1) (bi a2) := q1.1
      have hX1 : XB B I1 J1 := hX.keep (Ag.of q2 (by decide)) (Ag.of q3 (by decide))
      rw [qr]
      refine Ok.lbv ?_
      rw [hX1.2.2.1]
      refine X11_range_L hB a1 a2 ok.1 _ _ (fun I2 J2 s hX2 hF2 => ?_) bgf 1 (by omega) (by unfold bgf; omega) (by omega) (bS B) I1 J1 (by rw [rgB_self]; exact hX1) hfl
      refine Ok.lbv (Ok.mk ⟨rfl, ?_, ?_⟩)
      · exact hF2.keep (Ag.of (w := [(x_board, none)]) (Sm.mi rfl Sm.rf) (by decide)) (fun _ _ _ => rfl)
      · have := rgB_X (k := bS B) hX2
        rw [rgB_self] at this; exact this
    · intro r I1 J1 hP s1 s2
      obtain ⟨hr, hF1, hX1⟩ := hP
      simp only at hr hF1 hX1
      have hM1 : MB B I1 := hM.keep (Ag.of s1 (by decide))
      have hMo1 : CMod I1 := h.2.2.2.2.2.2.2.2.2.2.2.1.keep (Ag.of s1 (by decide))
      have sT := th_s I1 0
      have hM2 : MB B (ui I1 m_self f_Model_thrown 0) := hM1.keep (Ag.of sT (by decide))
      have hMo2 : CMod (ui I1 m_self f_Model_thrown 0) := hMo1.keep (Ag.of sT (by decide))
      unfold F_X12_range
      refine Ok.lbv (Ok.cpe ((X12_isSetting (J := J1) hW hM2.1).1 ok) (Ok.f (by decide) ?_))
      have hGW : Ok (F_X12_glowingWith (0 : Int32) a1 a2 (ui I1 m_self f_Model_thrown 0) J1) (fun q => q.1 = gwF B 0 (bi a1) (bi a2) ∧ LD B (ftK (bW B) 0) (ftA (bW B) 0) (ftB (bW B) 0) q.2.1) := by
        unfold F_X12_glowingWith
        refine Ok.call ((X12_lay hB (nF_0 B) _ J1 hM2).fo (fr_X12_lay _ _ J1)) (fun r I3 J3 _ hP => ?_)
        obtain ⟨q1, q2, q3⟩ := hP
        simp only at q1 q2 q3
        refine Ok.call ((X12_glowing hB (nF_0 B) none trivial a1 a2 ok.1 I3 J3 (hM2.keep (Ag.of q2 (by decide))) q1 (CMod.c0 (hMo2.keep (Ag.of q2 (by decide))))).fo (fr_X12_glowing _ _ _ _)) (fun r I4 J4 _ hP => Ok.mk ⟨hP.1.1, ?_⟩)
        exact q1.keep (Ag.of hP.2.1 (by decide))
      refine Ok.call (hGW.fo (fr_X12_glowingWith _ _ _ _ _)) (fun r' I3 J3 _ hP => ?_)
      obtain ⟨⟨q1, qL⟩, q2, q3⟩ := hP
      simp only at q1 qL q2 q3
      have hM3 : MB B I3 := hM2.keep (Ag.of q2 (by decide))
      have hMo3 : CMod I3 := hMo2.keep (Ag.of q2 (by decide))
      refine Ok.bxe (a := 0) (by omega) (by omega) (Ok.lbv ?_)
      rw [show Int32.toNatClampNeg (0 : Int32) = 0 from rfl, hM3.2.2.1, q1]
      refine X12_range_L hB a1 a2 ok.1 _ _ (fun I4 J4 s hM4 hMo4 => ?_) bgf 1 (by omega) (by unfold bgf; omega) (by omega) (bS B) I3 J3 (by rw [rgB_self]; exact hM3) hMo3 qL
      refine Ok.bxe (a := 0) (by omega) (by omega) (Ok.lbv (Ok.mk ⟨hr.symm, fun t1 t2 => ?_⟩))
      dsimp only at t1 t2 ⊢
      have hM5 := rgB_M (k := bS B) hM4
      rw [rgB_self] at hM5
      obtain ⟨_, _, kTx, kN, kTo, kP, k0, k1, kTb, _, _, kB⟩ := IV_k h s1 s2 t1 t2
      exact ⟨B, nb, hB, hX1.keep (Ag.of t1 (by decide)) (Ag.of t2 (by decide)), hM5, kTx (by decide), kN (by decide), kTo (by decide), kP (by decide), k0 (by decide), k1 (by decide), kTb (by decide), hF1.keep (Ag.of t1 (by decide)) (Ag.of t2 (by decide)), hMo4.keep (Ag.of (w := [(m_sets, none)]) (Sm.mi rfl Sm.rf) (by decide)), kB (by decide)⟩
  · refine ⟨-1, I, J, ui I m_self f_Model_thrown 0, J, ?_, ?_, IV_th h (th_s I 0) Sm.rf⟩
    · unfold F_X11_range
      exact cp0 e
    · unfold F_X12_range
      exact (lb_e _ _).trans (cp0 ((X12_isSetting (J := J) hW (by rw [ui_j (by decide)]; exact hM.1)).2 nk))

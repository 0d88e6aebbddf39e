/-! LAYER 2: calls: faults, would, picture, seen, forget, test -/
theorem n_p1 {m : Nat} (h : 0 < m) : nI m - 1 = nI (m - 1) := by
  cases m with
  | zero => omega
  | succ k => exact nI_pred k
theorem OP30 (n : Nat) (b : Bool) (I : HI) (J : HJ) (a1 a2 a3 a4 : Int32) (h : Iv (n + 1) b I J) : Op30 (Iv n) b I J a1 a2 a3 a4 := by
  obtain ⟨B, nb, h⟩ := h
  have hB := h.1
  have hX := h.2.1
  have hM := h.2.2.1
  refine bothF (P := fun q => q.1 = nI (nF B) ∧ tX [Int32.toInt64 (nI (1 + bW B)), Int32.toInt64 (nI (1 + bW B + nP (bW B)))] q.2.1 q.2.2) ?_ (fr_X11_faults I J) (fun I1 J1 => fr_X12_faults I1 J1) ?_
  · unfold F_X11_faults
    obtain ⟨c1, c2⟩ := tX_0 I J
    refine Ok.cle c1 ?_
    have sc : Sm [(x_told, some f_Told_size)] I (ui I x_told f_Told_size 0) := Sm.mi rfl Sm.rf
    have hX1 : XB B (ui I x_told f_Told_size 0) J := hX.keep (Ag.of sc (by decide)) (fun _ _ _ => rfl)
    refine Ok.cpe (X7_touch hX1.1) ?_
    refine Ok.call ((tX_add c2 _ (by simp)).fo (fr_X10_add _ _ _)) (fun r I3 J3 _ hP => ?_)
    obtain ⟨d1, d2, d3⟩ := hP
    simp only at d1 d2 d3
    have hX2 : XB B I3 J3 := hX1.keep (Ag.of d2 (by decide)) (Ag.of d3 (by decide))
    refine Ok.cpe (X7_turned hB.1 hB.2.1 hX2.1) ?_
    refine Ok.call ((tX_add d1 _ (by simp)).fo (fr_X10_add _ _ _)) (fun r I4 J4 _ hP => ?_)
    obtain ⟨f1, f2, f3⟩ := hP
    simp only at f1 f2 f3
    exact Ok.cpe (X7_size hB (hX2.keep (Ag.of f2 (by decide)) (Ag.of f3 (by decide)))) (Ok.mk ⟨rfl, f1⟩)
  · intro r I1 J1 hP s1 s2
    obtain ⟨hr, hT⟩ := hP
    simp only at hr hT
    unfold F_X12_faults
    refine Ok.lbv (Ok.lbv ?_)
    have sc : Sm [(m_self, some f_Model_thrown), (m_self, some f_Model_rowMany)] I1 (ui (ui I1 m_self f_Model_thrown 0) m_self f_Model_rowMany 0) := Sm.mi rfl (Sm.mi rfl Sm.rf)
    have c2 : tM [] (ui (ui I1 m_self f_Model_thrown 0) m_self f_Model_rowMany 0) J1 := ⟨by rw [ui_r]; rfl, fun k hk => by simp at hk⟩
    have hM2 : MB B (ui (ui I1 m_self f_Model_thrown 0) m_self f_Model_rowMany 0) := hM.keep (Ag.two s1 sc (by decide) (by decide))
    refine Ok.cpe (X12_touch hM2.1) ?_
    refine Ok.call ((tM_add c2 _ (by simp)).fo (fr_X12_tell _ _ _)) (fun r I3 J3 _ hP => ?_)
    obtain ⟨d1, d2, d3⟩ := hP
    simp only at d1 d2 d3
    have hM3 : MB B I3 := hM2.keep (Ag.of d2 (by decide))
    refine Ok.cpe (X12_turned hB.1 hB.2.1 hM3.1) ?_
    refine Ok.call ((tM_add d1 _ (by simp)).fo (fr_X12_tell _ _ _)) (fun r I4 J4 _ hP => ?_)
    obtain ⟨f1, f2, f3⟩ := hP
    simp only at f1 f2 f3
    refine Ok.cpe (X12_faultMany hB (hM3.keep (Ag.of f2 (by decide)))) (Ok.mk ⟨hr.symm, fun t1 t2 => ?_⟩)
    dsimp only at t1 t2 ⊢
    obtain ⟨kX, kM, kTx, kN, _, kP, k0, k1, kTb, kF, kMo, kB⟩ := IV_k h s1 s2 t1 t2
    exact ⟨B, nb, hB, kX (by decide), kM (by decide), kTx (by decide), kN (by decide), CTold.of (hT.keep (Ag.of t1 (by decide)) (Ag.of t2 (by decide))) f1, kP (by decide), k0 (by decide), k1 (by decide), kTb (by decide), kF (by decide), kMo (by decide), kB (by decide)⟩
theorem X7_glowWithF {B : Bd} (hB : OkB B) (f : Nat) (hf : f < nF B) (h l : Int32) (hd : okS (bi h) (bi l)) (I : HI) (J : HJ) (hX : XB B I J) (hF : CFlow I J) : Ok (F_X7_glowWith (nI f) h l I J) (fun q => q.1 = gwF B f (bi h) (bi l) ∧ CFlow q.2.1 q.2.2) :=
  (X7_glowWith hB f hf h l hd I J hX hF.1 hF.wt).mono (fun _ hq => ⟨hq.1, gQ_flow hB hf hd hq⟩)
theorem OP32 (n : Nat) (b : Bool) (I : HI) (J : HJ) (a1 a2 a3 a4 : Int32) (h : Iv (n + 1) b I J) : Op32 (Iv n) b I J a1 a2 a3 a4 := by
  obtain ⟨B, nb, h⟩ := h
  have hB := h.1
  have hW := hB.2.1
  have hl := nF_le hB
  have hX := h.2.1
  have hM := h.2.2.1
  obtain ⟨I0, hI0⟩ : ∃ I0, I0 = ui I m_self f_Model_thrown 0 := ⟨_, rfl⟩
  have sT : Sm [(m_self, some f_Model_thrown)] I I0 := by rw [hI0]; exact th_s I 0
  have hM0 : MB B I0 := hM.keep (Ag.of sT (by decide))
  rcases i_case a1 (nF B) (by omega) with ⟨f, hf, rfl⟩ | ⟨hn, _⟩
  · rcases X0_hasSetting (J := J) (h := a2) (l := a3) hW hX.1 with ⟨ok, e⟩ | ⟨nk, e⟩
    · refine bothF (P := fun q => q.1 = gwF B f (bi a2) (bi a3) ∧ CFlow q.2.1 q.2.2) ?_ (fr_X11_would (nI f) a2 a3 I J) (fun I1 J1 => fr_X12_would (nI f) a2 a3 I1 J1) ?_
      · unfold F_X11_would
        refine Ok.cpe ((X7_has hB hX).1 ⟨f, hf, rfl⟩) (Ok.f (by decide) (Ok.cpe e (Ok.f (by decide) ?_)))
        rw [cl_some]
        exact X7_glowWithF hB f hf a2 a3 ok.1 I J hX h.2.2.2.2.2.2.2.2.2.2.1
      · intro r I1 J1 hP s1 s2
        obtain ⟨hr, hF1⟩ := hP
        simp only at hr hF1
        have sT1 := th_s I1 0
        have hM2 : MB B (ui I1 m_self f_Model_thrown 0) := hM.keep (Ag.two s1 sT1 (by decide) (by decide))
        have hMo2 : CMod (ui I1 m_self f_Model_thrown 0) := h.2.2.2.2.2.2.2.2.2.2.2.1.keep (Ag.two s1 sT1 (by decide) (by decide))
        unfold F_X12_would
        refine Ok.lbv ?_
        refine Ok.cpe ((X12_isFault hB hM2).1 ⟨f, hf, rfl⟩) (Ok.f (by decide) (Ok.cpe ((X12_isSetting hW hM2.1).1 ok) (Ok.f (by decide) ?_)))
        rw [cl_some]
        refine (X12_glowWith hB hf none trivial a2 a3 ok.1 _ J1 hM2 hMo2.c0).mono (fun q hq => ⟨by rw [hq, hr], fun t1 t2 => ?_⟩)
        obtain ⟨kX, kM, kTx, kN, kTo, kP, k0, k1, kTb, _, kMo, kB⟩ := IV_k h s1 s2 t1 t2
        exact ⟨B, nb, hB, kX (by decide), kM (by decide), kTx (by decide), kN (by decide), kTo (by decide), kP (by decide), k0 (by decide), k1 (by decide), kTb (by decide), hF1.keep (Ag.of t1 (by decide)) (Ag.of t2 (by decide)), kMo (by decide), kB (by decide)⟩
    · refine ⟨-1, I, J, I0, J, ?_, ?_, IV_th h sT Sm.rf⟩
      · unfold F_X11_would
        rw [(X7_has hB hX).1 ⟨f, hf, rfl⟩, e]; rfl
      · unfold F_X12_would
        simp only [lb]
        rw [← hI0, (X12_isFault hB hM0).1 ⟨f, hf, rfl⟩, (X12_isSetting hW hM0.1).2 nk]; rfl
  · refine ⟨-1, I, J, I0, J, ?_, ?_, IV_th h sT Sm.rf⟩
    · unfold F_X11_would
      rw [(X7_has hB hX).2 hn]; rfl
    · unfold F_X12_would
      simp only [lb]
      rw [← hI0, (X12_isFault hB hM0).2 hn]; rfl
theorem X11_isPic {x : Int32} : ((∃ i, i < 4 ∧ x = nI i) → F_X11_isPicture x = some (nI 1)) ∧ ((x < 0 ∨ nI 4 ≤ x) → F_X11_isPicture x = some (nI 0)) := by
  unfold F_X11_isPicture
  constructor
  · rintro ⟨i, hi, rfl⟩
    rw [if_neg (n_nn (by omega)), if_neg (show ¬ (4 : Int32) ≤ nI i from fun h => by
      have h' : nI 4 ≤ nI i := h
      rw [n_le (by omega) (by omega)] at h'; omega)]; rfl
  · intro h
    by_cases c : x < 0
    · rw [if_pos c]; rfl
    · rw [if_neg c, if_pos (show (4 : Int32) ≤ x by rcases h with h | h; exact absurd h c; exact h)]; rfl
theorem OP23 (n : Nat) (b : Bool) (I : HI) (J : HJ) (a1 a2 a3 a4 : Int32) (h : Iv (n + 1) b I J) : Op23 (Iv n) b I J a1 a2 a3 a4 := by
  obtain ⟨B, nb, h⟩ := h
  have hB := h.1
  have h60 := hB.2.2.1
  have hX := h.2.1
  have hM := h.2.2.1
  obtain ⟨I0, hI0⟩ : ∃ I0, I0 = ui I m_self f_Model_thrown 0 := ⟨_, rfl⟩
  have sT : Sm [(m_self, some f_Model_thrown)] I I0 := by rw [hI0]; exact th_s I 0
  have hM0 : MB B I0 := hM.keep (Ag.of sT (by decide))
  unfold Op23
  generalize lgA a2 a3 = x
  have z3 : (3 : Int64) = lN (4 - 1) := rfl
  have z0 : (0 : Int64) = lN 0 := rfl
  rcases i_case a1 4 (by omega) with ⟨i, hi, rfl⟩ | ⟨hn, _⟩
  · rcases X0_hasLamps (J := J) (x := x) h60 hX.2.1 with ⟨ok, e⟩ | ⟨nk, e⟩
    · have sJ : Sm [(x_notes_pictures, none)] J (uj J x_notes_pictures i x) := Sm.mj rfl Sm.rf
      have tJ : Sm [(m_pictures, none)] (uj J x_notes_pictures i x) (uj (uj J x_notes_pictures i x) m_pictures i x) := Sm.mj rfl Sm.rf
      refine ⟨nI (pc x), I, uj J x_notes_pictures i x, I0, uj (uj J x_notes_pictures i x) m_pictures i x, ?_, ?_, ?_⟩
      · unfold F_X11_picture
        rw [X11_isPic.1 ⟨i, hi, rfl⟩, e, bcN]
        simp (disch := omega) only [cp, Option.bind_some, n_bx, n_cl, lb]
        rw [if_neg (by decide), if_neg (by decide)]
      · unfold F_X12_picture
        simp only [lb]
        rw [← hI0, z3, z0, (in_c (n := 4) (by omega) (by omega)).1 ⟨i, hi, rfl⟩, (X12_areLamps h60 hM0.2.1).1 ok, bcN]
        simp (disch := omega) only [cp, Option.bind_some, n_bx, n_cl]
        rw [if_neg (by decide), if_neg (by decide)]
      · have hN : CNote B I0 (uj (uj J x_notes_pictures i x) m_pictures i x) := by
          obtain ⟨n1, n2, n3, n4, m, n5, n6, n7, n8⟩ := h.2.2.2.2.1
          refine ⟨by rw [sT _ _ rfl, sT _ _ rfl]; exact n1, by rw [sT _ _ rfl, sT _ _ rfl]; exact n2, by rw [sT _ _ rfl, sT _ _ rfl]; exact n3, fun k hk => ?_, m, n5, by rw [sT _ _ rfl]; exact n6, by rw [sT _ _ rfl]; exact n7, fun k hk => ?_⟩
          · rw [uj_s, uj_c (show m_pictures ≠ x_notes_pictures by decide), uj_c (show x_notes_pictures ≠ m_pictures by decide), uj_s]
            by_cases c : k = i
            · rw [if_pos c, if_pos c]; exact ⟨rfl, ok⟩
            · rw [if_neg c, if_neg c]; exact n4 k hk
          · rw [sT _ _ rfl, sT _ _ rfl, sT _ _ rfl, sT _ _ rfl, tJ _ _ rfl, tJ _ _ rfl, sJ _ _ rfl, sJ _ _ rfl]; exact n8 k hk
        obtain ⟨kX, kM, kTx, _, kTo, kP, k0, k1, kTb, kF, kMo, kB⟩ := IV_k h (Sm.rf (w := [])) sJ sT tJ
        exact ⟨B, nb, hB, kX (by decide), kM (by decide), kTx (by decide), hN, kTo (by decide), kP (by decide), k0 (by decide), k1 (by decide), kTb (by decide), kF (by decide), kMo (by decide), kB (by decide)⟩
    · refine ⟨-1, I, J, I0, J, ?_, ?_, IV_th h sT Sm.rf⟩
      · unfold F_X11_picture
        rw [X11_isPic.1 ⟨i, hi, rfl⟩, e]; rfl
      · unfold F_X12_picture
        simp only [lb]
        rw [← hI0, z3, z0, (in_c (n := 4) (by omega) (by omega)).1 ⟨i, hi, rfl⟩, (X12_areLamps h60 hM0.2.1).2 nk]; rfl
  · refine ⟨-1, I, J, I0, J, ?_, ?_, IV_th h sT Sm.rf⟩
    · unfold F_X11_picture
      rw [X11_isPic.2 hn]; rfl
    · unfold F_X12_picture
      simp only [lb]
      rw [← hI0, z3, z0, (in_c (n := 4) (by omega) (by omega)).2 hn]; rfl
theorem OP37 (n : Nat) (b : Bool) (I : HI) (J : HJ) (a1 a2 a3 a4 : Int32) (h : Iv (n + 1) b I J) : Op37 (Iv n) b I J a1 a2 a3 a4 := by
  obtain ⟨B, nb, h⟩ := h
  have hB := h.1
  obtain ⟨n1, n2, n3, n4, m, n5, n6, n7, n8⟩ := h.2.2.2.2.1
  by_cases c : m = 0
  · refine ⟨-1, I, J, ui I m_self f_Model_thrown 0, J, ?_, ?_, IV_th h (th_s I 0) Sm.rf⟩
    · unfold F_X11_forget
      rw [n6, c]; rfl
    · unfold F_X12_forget
      simp only [lb]
      rw [ui_j (by decide), n7, c]; rfl
  · have s1 : Sm [(x_notes, some f_Notes_seenSize)] I (ui I x_notes f_Notes_seenSize (nI (m - 1))) := Sm.mi rfl Sm.rf
    have t1 : Sm [(m_self, some f_Model_thrown), (m_self, some f_Model_seenMany)] (ui I x_notes f_Notes_seenSize (nI (m - 1))) (ui (ui (ui I x_notes f_Notes_seenSize (nI (m - 1))) m_self f_Model_thrown 0) m_self f_Model_seenMany (nI (m - 1))) := Sm.mi rfl (Sm.mi rfl Sm.rf)
    have c0 : ¬ nI m = 0 := fun h0 => by
      have h0' : nI m = nI 0 := h0
      rw [n_eq (by omega) (by omega)] at h0'; exact c h0'
    refine ⟨nI (m - 1), ui I x_notes f_Notes_seenSize (nI (m - 1)), J, ui (ui (ui I x_notes f_Notes_seenSize (nI (m - 1))) m_self f_Model_thrown 0) m_self f_Model_seenMany (nI (m - 1)), J, ?_, ?_, ?_⟩
    · unfold F_X11_forget
      simp only [lb]
      rw [n6, if_neg c0, n_p1 (by omega), ui_r]
    · unfold F_X12_forget
      simp only [lb]
      have e : ui (ui I x_notes f_Notes_seenSize (nI (m - 1))) m_self f_Model_thrown 0 m_self f_Model_seenMany = nI m := by rw [ui_j (by decide), ui_c (by decide)]; exact n7
      rw [e, if_neg c0, n_p1 (by omega), ui_r]
    · generalize hI2 : ui (ui (ui I x_notes f_Notes_seenSize (nI (m - 1))) m_self f_Model_thrown 0) m_self f_Model_seenMany (nI (m - 1)) = I2 at t1 ⊢
      have hN : CNote B I2 J := by
        refine ⟨by rw [t1 _ _ rfl, t1 _ _ rfl, s1 _ _ rfl, s1 _ _ rfl]; exact n1, by rw [t1 _ _ rfl, t1 _ _ rfl, s1 _ _ rfl, s1 _ _ rfl]; exact n2, by rw [t1 _ _ rfl, t1 _ _ rfl, s1 _ _ rfl, s1 _ _ rfl]; exact n3, n4, m - 1, by omega, by rw [t1 _ _ rfl, ui_r], by rw [← hI2, ui_r], fun k hk => ?_⟩
        rw [t1 _ _ rfl, t1 _ _ rfl, t1 _ _ rfl, t1 _ _ rfl, s1 _ _ rfl, s1 _ _ rfl, s1 _ _ rfl, s1 _ _ rfl]; exact n8 k (by omega)
      obtain ⟨kX, kM, kTx, _, kTo, kP, k0, k1, kTb, kF, kMo, kB⟩ := IV_k h s1 (Sm.rf (w := [])) t1 (Sm.rf (w := []))
      exact ⟨B, nb, hB, kX (by decide), kM (by decide), kTx (by decide), hN, kTo (by decide), kP (by decide), k0 (by decide), k1 (by decide), kTb (by decide), kF (by decide), kMo (by decide), kB (by decide)⟩
theorem OP36 (n : Nat) (b : Bool) (I : HI) (J : HJ) (a1 a2 a3 a4 : Int32) (h : Iv (n + 1) b I J) : Op36 (Iv n) b I J a1 a2 a3 a4 := by
  obtain ⟨B, nb, h⟩ := h
  have hB := h.1
  have hW := hB.2.1
  have h60 := hB.2.2.1
  have hX := h.2.1
  have hM := h.2.2.1
  obtain ⟨n1, n2, n3, n4, m, n5, n6, n7, n8⟩ := h.2.2.2.2.1
  unfold Op36
  generalize lgA a3 a4 = x
  rcases X0_hasSetting (J := J) (h := a1) (l := a2) hW hX.1 with ⟨ok, e⟩ | ⟨nk, e⟩
  · rcases X0_hasLamps (J := J) (x := x) h60 hX.2.1 with ⟨ok2, e2⟩ | ⟨nk2, e2⟩
    · by_cases c : m < 12
      · obtain ⟨I1, hI1⟩ : ∃ I1, I1 = ui (ui (ui I x_notes_seenHigh m a1) x_notes_seenLow m a2) x_notes f_Notes_seenSize (nI (m + 1)) := ⟨_, rfl⟩
        obtain ⟨I2, hI2⟩ : ∃ I2, I2 = ui (ui (ui (ui I1 m_self f_Model_thrown 0) m_seenHigh m a1) m_seenLow m a2) m_self f_Model_seenMany (nI (m + 1)) := ⟨_, rfl⟩
        have s1 : Sm [(x_notes_seenHigh, none), (x_notes_seenLow, none), (x_notes, some f_Notes_seenSize)] I I1 := by rw [hI1]; exact Sm.mi rfl (Sm.mi rfl (Sm.mi rfl Sm.rf))
        have s2 : Sm [(x_notes_seenLamps, none)] J (uj J x_notes_seenLamps m x) := Sm.mj rfl Sm.rf
        have t1 : Sm [(m_self, some f_Model_thrown), (m_seenHigh, none), (m_seenLow, none), (m_self, some f_Model_seenMany)] I1 I2 := by rw [hI2]; exact Sm.mi rfl (Sm.mi rfl (Sm.mi rfl (Sm.mi rfl Sm.rf)))
        have t2 : Sm [(m_seenLamps, none)] (uj J x_notes_seenLamps m x) (uj (uj J x_notes_seenLamps m x) m_seenLamps m x) := Sm.mj rfl Sm.rf
        have hX6 : F_X3_addSeen_25 a1 a2 x I J = some (1, I1, uj J x_notes_seenLamps m x) := by
          unfold F_X3_addSeen_25
          rw [n6, if_pos (show nI m < (12 : Int32) from by
            have h' : nI m < nI 12 := by rw [n_lt] <;> omega
            exact h')]
          have u1 : ui I x_notes_seenHigh m a1 x_notes f_Notes_seenSize = nI m := by rw [ui_c (by decide)]; exact n6
          have u2 : ui (ui I x_notes_seenHigh m a1) x_notes_seenLow m a2 x_notes f_Notes_seenSize = nI m := by rw [ui_c (by decide)]; exact u1
          simp (disch := omega) only [n_bx, n_cl, lb, u1, u2]
          rw [hI1, nI_1]
        refine ⟨nI (m + 1), I1, uj J x_notes_seenLamps m x, I2, uj (uj J x_notes_seenLamps m x) m_seenLamps m x, ?_, ?_, ?_⟩
        · unfold F_X11_seen
          rw [e, e2, hX6]
          simp only [cp, cl, Option.bind_some]
          rw [if_neg (by decide), if_neg (by decide), if_neg (by decide), hI1, ui_r]
        · unfold F_X12_seen
          simp only [lb]
          obtain ⟨I3, hI3⟩ : ∃ I3, I3 = ui I1 m_self f_Model_thrown 0 := ⟨_, rfl⟩
          rw [← hI3]
          have s3 : Sm [(m_self, some f_Model_thrown)] I1 I3 := by rw [hI3]; exact th_s I1 0
          have hM3 : MB B I3 := hM.keep (Ag.two s1 s3 (by decide) (by decide))
          have e7 : I3 m_self f_Model_seenMany = nI m := by rw [s3 _ _ rfl, s1 _ _ rfl]; exact n7
          rw [(X12_isSetting hW hM3.1).1 ok, (X12_areLamps h60 hM3.2.1).1 ok2, e7]
          simp only [cp, Option.bind_some]
          rw [if_neg (by decide), if_neg (by decide), if_neg (show ¬ nI m = (12 : Int32) from fun h0 => by
            have h' : nI m = nI 12 := h0
            rw [n_eq (by omega) (by omega)] at h'; omega)]
          have u1 : ui I3 m_seenHigh m a1 m_self f_Model_seenMany = nI m := by rw [ui_c (by decide)]; exact e7
          have u2 : ui (ui I3 m_seenHigh m a1) m_seenLow m a2 m_self f_Model_seenMany = nI m := by rw [ui_c (by decide)]; exact u1
          simp (disch := omega) only [n_bx, n_cl, u1, u2]
          rw [nI_1, ui_r, hI2, hI3]
        · have hN : CNote B I2 (uj (uj J x_notes_seenLamps m x) m_seenLamps m x) := by
            refine ⟨by rw [t1 _ _ rfl, t1 _ _ rfl, s1 _ _ rfl, s1 _ _ rfl]; exact n1, by rw [t1 _ _ rfl, t1 _ _ rfl, s1 _ _ rfl, s1 _ _ rfl]; exact n2, by rw [t1 _ _ rfl, t1 _ _ rfl, s1 _ _ rfl, s1 _ _ rfl]; exact n3, fun k hk => ?_, m + 1, by omega, by rw [t1 _ _ rfl, hI1, ui_r], by rw [hI2, ui_r], fun k hk => ?_⟩
            · rw [t2 _ _ rfl, t2 _ _ rfl, s2 _ _ rfl, s2 _ _ rfl]; exact n4 k hk
            · have v1 : I2 m_seenHigh k = if k = m then a1 else I m_seenHigh k := by
                rw [hI2, ui_c (by decide), ui_c (by decide), ui_s, ui_c (by decide), s1 _ _ rfl]
              have v2 : I2 m_seenLow k = if k = m then a2 else I m_seenLow k := by
                rw [hI2, ui_c (by decide), ui_s, ui_c (by decide), ui_c (by decide), s1 _ _ rfl]
              have v3 : I2 x_notes_seenHigh k = if k = m then a1 else I x_notes_seenHigh k := by
                rw [t1 _ _ rfl, hI1, ui_c (by decide), ui_c (by decide), ui_s]
              have v4 : I2 x_notes_seenLow k = if k = m then a2 else I x_notes_seenLow k := by
                rw [t1 _ _ rfl, hI1, ui_c (by decide), ui_s, ui_c (by decide)]
              have v5 : uj (uj J x_notes_seenLamps m x) m_seenLamps m x m_seenLamps k = if k = m then x else J m_seenLamps k := by
                rw [uj_s, uj_c (by decide)]
              have v6 : uj (uj J x_notes_seenLamps m x) m_seenLamps m x x_notes_seenLamps k = if k = m then x else J x_notes_seenLamps k := by
                rw [uj_c (by decide), uj_s]
              rw [v1, v2, v3, v4, v5, v6]
              by_cases d : k = m
              · simp only [if_pos d]; exact ⟨trivial, trivial, trivial, ok⟩
              · simp only [if_neg d]; exact n8 k (by omega)
          obtain ⟨kX, kM, kTx, _, kTo, kP, k0, k1, kTb, kF, kMo, kB⟩ := IV_k h s1 s2 t1 t2
          exact ⟨B, nb, hB, kX (by decide), kM (by decide), kTx (by decide), hN, kTo (by decide), kP (by decide), k0 (by decide), k1 (by decide), kTb (by decide), kF (by decide), kMo (by decide), kB (by decide)⟩
      · have cm : m = 12 := by omega
        refine ⟨-1, I, J, ui I m_self f_Model_thrown 0, J, ?_, ?_, IV_th h (th_s I 0) Sm.rf⟩
        · unfold F_X11_seen F_X3_addSeen_25
          rw [e, e2, n6, cm]; rfl
        · unfold F_X12_seen
          simp only [lb]
          rw [(X12_isSetting (J := J) hW (by rw [ui_j (by decide)]; exact hM.1)).1 ok, (X12_areLamps (J := J) h60 (by rw [ui_j (by decide)]; exact hM.2.1)).1 ok2, ui_j (by decide), n7, cm]; rfl
    · refine ⟨-1, I, J, ui I m_self f_Model_thrown 0, J, ?_, ?_, IV_th h (th_s I 0) Sm.rf⟩
      · unfold F_X11_seen
        rw [e, e2]; rfl
      · unfold F_X12_seen
        simp only [lb]
        rw [(X12_isSetting (J := J) hW (by rw [ui_j (by decide)]; exact hM.1)).1 ok, (X12_areLamps (J := J) h60 (by rw [ui_j (by decide)]; exact hM.2.1)).2 nk2]; rfl
  · refine ⟨-1, I, J, ui I m_self f_Model_thrown 0, J, ?_, ?_, IV_th h (th_s I 0) Sm.rf⟩
    · unfold F_X11_seen
      rw [e]; rfl
    · unfold F_X12_seen
      simp only [lb]
      rw [(X12_isSetting (J := J) hW (by rw [ui_j (by decide)]; exact hM.1)).2 nk]; rfl
theorem OP41 (n : Nat) (b : Bool) (I : HI) (J : HJ) (a1 a2 a3 a4 : Int32) (h : Iv (n + 1) b I J) : Op41 (Iv n) b I J a1 a2 a3 a4 := by
  obtain ⟨B, nb, h⟩ := h
  have hB := h.1
  have hW := hB.2.1
  have hX := h.2.1
  have hM := h.2.2.1
  obtain ⟨m, n5, n6, n7, n8⟩ := h.2.2.2.2.2.2.1
  rcases X0_hasSetting (J := J) (h := a1) (l := a2) hW hX.1 with ⟨ok, e⟩ | ⟨nk, e⟩
  · by_cases c : m < 8
    · obtain ⟨I1, hI1⟩ : ∃ I1, I1 = ui (ui (ui I x_plan_testHigh m a1) x_plan_testLow m a2) x_plan f_Plan_tests (nI (m + 1)) := ⟨_, rfl⟩
      obtain ⟨I2, hI2⟩ : ∃ I2, I2 = ui (ui (ui (ui I1 m_self f_Model_thrown 0) m_testHigh m a1) m_testLow m a2) m_self f_Model_testMany (nI (m + 1)) := ⟨_, rfl⟩
      have s1 : Sm [(x_plan_testHigh, none), (x_plan_testLow, none), (x_plan, some f_Plan_tests)] I I1 := by rw [hI1]; exact Sm.mi rfl (Sm.mi rfl (Sm.mi rfl Sm.rf))
      have t1 : Sm [(m_self, some f_Model_thrown), (m_testHigh, none), (m_testLow, none), (m_self, some f_Model_testMany)] I1 I2 := by rw [hI2]; exact Sm.mi rfl (Sm.mi rfl (Sm.mi rfl (Sm.mi rfl Sm.rf)))
      have hX6 : F_X5_addTest a1 a2 I J = some (1, I1, J) := by
        unfold F_X5_addTest
        rw [n6, if_pos (show nI m < (8 : Int32) from by
          have h' : nI m < nI 8 := by rw [n_lt] <;> omega
          exact h')]
        have u1 : ui I x_plan_testHigh m a1 x_plan f_Plan_tests = nI m := by rw [ui_c (by decide)]; exact n6
        have u2 : ui (ui I x_plan_testHigh m a1) x_plan_testLow m a2 x_plan f_Plan_tests = nI m := by rw [ui_c (by decide)]; exact u1
        simp (disch := omega) only [n_bx, n_cl, lb, u1, u2]
        rw [hI1, nI_1]
      refine ⟨nI m, I1, J, I2, J, ?_, ?_, ?_⟩
      · unfold F_X11_test
        rw [e, hX6]
        simp only [cp, cl, Option.bind_some]
        rw [if_neg (by decide), if_neg (by decide), hI1, ui_r, nI_pred]
      · unfold F_X12_test
        simp only [lb]
        obtain ⟨I3, hI3⟩ : ∃ I3, I3 = ui I1 m_self f_Model_thrown 0 := ⟨_, rfl⟩
        rw [← hI3]
        have s3 : Sm [(m_self, some f_Model_thrown)] I1 I3 := by rw [hI3]; exact th_s I1 0
        have hM3 : MB B I3 := hM.keep (Ag.two s1 s3 (by decide) (by decide))
        have e7 : I3 m_self f_Model_testMany = nI m := by rw [s3 _ _ rfl, s1 _ _ rfl]; exact n7
        rw [(X12_isSetting hW hM3.1).1 ok, e7]
        simp only [cp, Option.bind_some]
        rw [if_neg (by decide), if_neg (show ¬ nI m = (8 : Int32) from fun h0 => by
          have h' : nI m = nI 8 := h0
          rw [n_eq (by omega) (by omega)] at h'; omega)]
        have u1 : ui I3 m_testHigh m a1 m_self f_Model_testMany = nI m := by rw [ui_c (by decide)]; exact e7
        have u2 : ui (ui I3 m_testHigh m a1) m_testLow m a2 m_self f_Model_testMany = nI m := by rw [ui_c (by decide)]; exact u1
        simp (disch := omega) only [n_bx, n_cl, u1, u2]
        rw [nI_1, ui_r, nI_pred, hI2, hI3]
      · have hP : CPlan B I2 := by
          refine ⟨m + 1, by omega, by rw [t1 _ _ rfl, hI1, ui_r], by rw [hI2, ui_r], fun k hk => ?_⟩
          have v1 : I2 m_testHigh k = if k = m then a1 else I m_testHigh k := by
            rw [hI2, ui_c (by decide), ui_c (by decide), ui_s, ui_c (by decide), s1 _ _ rfl]
          have v2 : I2 m_testLow k = if k = m then a2 else I m_testLow k := by
            rw [hI2, ui_c (by decide), ui_s, ui_c (by decide), ui_c (by decide), s1 _ _ rfl]
          have v3 : I2 x_plan_testHigh k = if k = m then a1 else I x_plan_testHigh k := by
            rw [t1 _ _ rfl, hI1, ui_c (by decide), ui_c (by decide), ui_s]
          have v4 : I2 x_plan_testLow k = if k = m then a2 else I x_plan_testLow k := by
            rw [t1 _ _ rfl, hI1, ui_c (by decide), ui_s, ui_c (by decide)]
          rw [v1, v2, v3, v4]
          by_cases d : k = m
          · simp only [if_pos d]; exact ⟨trivial, trivial, ok⟩
          · simp only [if_neg d]; exact n8 k (by omega)
        obtain ⟨kX, kM, kTx, kN, kTo, _, k0, k1, kTb, kF, kMo, kB⟩ := IV_k h s1 (Sm.rf (w := [])) t1 (Sm.rf (w := []))
        exact ⟨B, nb, hB, kX (by decide), kM (by decide), kTx (by decide), kN (by decide), kTo (by decide), hP, k0 (by decide), k1 (by decide), kTb (by decide), kF (by decide), kMo (by decide), kB (by decide)⟩
    · have cm : m = 8 := by omega
      refine ⟨-1, I, J, ui I m_self f_Model_thrown 0, J, ?_, ?_, IV_th h (th_s I 0) Sm.rf⟩
      · unfold F_X11_test F_X5_addTest
        rw [e, n6, cm]; rfl
      · unfold F_X12_test
        simp only [lb]
        rw [(X12_isSetting (J := J) hW (by rw [ui_j (by decide)]; exact hM.1)).1 ok, ui_j (by decide), n7, cm]; rfl
  · refine ⟨-1, I, J, ui I m_self f_Model_thrown 0, J, ?_, ?_, IV_th h (th_s I 0) Sm.rf⟩
    · unfold F_X11_test
      rw [e]; rfl
    · unfold F_X12_test
      simp only [lb]
      rw [(X12_isSetting (J := J) hW (by rw [ui_j (by decide)]; exact hM.1)).2 nk]; rfl

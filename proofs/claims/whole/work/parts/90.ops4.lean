/-! LAYER 2: calls: lamp, fault, row, count, faults, would -/
theorem in_c {x : Int32} {n : Nat} (h1 : 1 ≤ n) (hn : n ≤ 1000) : ((∃ i, i < n ∧ x = nI i) → F_X12_in (Int32.toInt64 x) (lN 0) (lN (n - 1)) = some (nI 1)) ∧ ((x < 0 ∨ nI n ≤ x) → F_X12_in (Int32.toInt64 x) (lN 0) (lN (n - 1)) = some (nI 0)) := by
  have h0 : (lN 0).toInt = 0 := by decide
  rw [in_spec, l_i, h0, L_int (by omega)]
  constructor
  · rintro ⟨i, hi, rfl⟩
    rw [n_int (by omega), if_pos (by omega)]; rfl
  · intro h
    rw [if_neg]
    · rfl
    · rcases h with h | h
      · rw [i_lt, i_0] at h; omega
      · rw [i_le, n_int (by omega)] at h; omega
theorem c_le {x : Int32} {n : Nat} (hn : n < 1000) (h : x < 0 ∨ nI (n + 1) ≤ x) : x < 0 ∨ (¬ x < 0 ∧ ¬ x ≤ nI n) := by
  by_cases c : x < 0
  · exact Or.inl c
  · right
    refine ⟨c, ?_⟩
    rcases h with h | h
    · exact absurd h c
    · rw [i_le, n_int (by omega)] at h
      rw [i_le, n_int (by omega)]; omega
theorem Iv_out {n : Nat} {B : Bd} {nb : Nat} {I I2 : HI} {J : HJ} {b : Bool} {w : Int64} (h : IV (n + 1) B nb I J) (t1 : Sm [(m_self, some f_Model_thrown)] I I2) : Iv n b I2 (uj J 128 0 w) := IV_th h t1 (Sm.mj rfl Sm.rf)
theorem OP4 (n : Nat) (b : Bool) (I : HI) (J : HJ) (a1 a2 a3 a4 : Int32) (h : Iv (n + 1) b I J) : Op4 (Iv n) b I J a1 a2 a3 a4 := by
  obtain ⟨B, nb, h⟩ := h
  have hB := h.1
  have h60 := hB.2.2.1
  have hX := h.2.1
  have hM := h.2.2.1
  obtain ⟨I0, hI0⟩ : ∃ I0, I0 = ui I m_self f_Model_thrown 0 := ⟨_, rfl⟩
  have sT : Sm [(m_self, some f_Model_thrown)] I I0 := by rw [hI0]; exact th_s I 0
  have z : I0 m_self f_Model_thrown = 0 := by rw [hI0, ui_r]
  have hM2 : MB B (I0) := hM.keep (Ag.of sT (by decide))
  have z2 : (2 : Int64) = lN (3 - 1) := rfl
  have z0 : (0 : Int64) = lN 0 := rfl
  have lost : ∀ J', (cl (F_X12_lost (I0) J') fun r5 I6 J7 => some (r5, I6, J7)) = some (0, ui (I0) m_self f_Model_thrown 1, J') := fun _ => rfl
  have hl : Iv n b (ui (I0) m_self f_Model_thrown 1) J := IV_th h (Sm.mi rfl sT) Sm.rf
  rcases i_case a1 (bL B) (by omega) with ⟨i, hi, rfl⟩ | ⟨hn, _⟩
  · obtain ⟨x1, x2, x3⟩ := hX.2.2.2.2.2.2.1 i hi
    obtain ⟨m1, m2, m3⟩ := hM2.2.2.2.2.2.2 i hi
    rcases i_case a2 3 (by omega) with ⟨j, hj, rfl⟩ | ⟨hn2, _⟩
    · left
      have hc : j = 0 ∨ j = 1 ∨ j = 2 := by omega
      refine ⟨if j = 0 then nI (bA B i) else if j = 1 then nI (bG B i) else nI (bV B i), if j = 0 then nI (bA B i) else if j = 1 then nI (bG B i) else nI (bV B i), I0, uj J 128 0 _, ?_, ?_, ?_, by rw [uj_r], rfl, Iv_out h sT⟩
      · unfold F_X11_lamp
        rw [(X0_hasLamp (by omega) hX.2.1).1 ⟨i, hi, rfl⟩]
        simp (disch := omega) only [cp, Option.bind_some, lit32, n_lt, n_le, n_eq, n_bx, n_cl, x1, x2, x3]
        rcases hc with rfl | rfl | rfl <;> rfl
      · unfold F_X12_lamp
        simp only [lb]
        rw [← hI0]
        rw [(X12_isLamp (by omega) hM2.2.1).1 ⟨i, hi, rfl⟩, z2, z0, (in_c (n := 3) (by omega) (by omega)).1 ⟨j, hj, rfl⟩]
        simp (disch := omega) only [cp, Option.bind_some, lit32, n_eq, n_bx, n_cl, m1, m2, m3]
        rcases hc with rfl | rfl | rfl <;> rfl
      · unfold F_X12_thrown; rw [z]
    · right
      refine ⟨0, _, J, ?_, ?_, ?_, hl⟩
      · unfold F_X11_lamp
        rw [(X0_hasLamp (by omega) hX.2.1).1 ⟨i, hi, rfl⟩]
        simp only [cp, Option.bind_some]
        rw [if_neg (by decide)]
        rcases c_le (n := 2) (by omega) hn2 with c | ⟨c1, c2⟩
        · rw [if_pos c]
        · rw [if_neg c1, if_neg (show ¬ a2 ≤ (2 : Int32) from c2)]
      · unfold F_X12_lamp
        simp only [lb]
        rw [← hI0]
        rw [(X12_isLamp (by omega) hM2.2.1).1 ⟨i, hi, rfl⟩, z2, z0, (in_c (n := 3) (by omega) (by omega)).2 hn2]
        simp only [cp, Option.bind_some]
        rw [if_neg (by decide), if_pos (by decide), lost]
      · unfold F_X12_thrown; rw [ui_r]
  · right
    refine ⟨0, _, J, ?_, ?_, ?_, hl⟩
    · unfold F_X11_lamp
      rw [(X0_hasLamp (by omega) hX.2.1).2 hn]; rfl
    · unfold F_X12_lamp
      simp only [lb]
      rw [← hI0]
      rw [(X12_isLamp (by omega) hM2.2.1).2 hn]
      simp only [cp, Option.bind_some]
      rw [if_pos (by decide), lost]
    · unfold F_X12_thrown; rw [ui_r]
theorem OP47 (n : Nat) (b : Bool) (I : HI) (J : HJ) (a1 a2 a3 a4 : Int32) (h : Iv (n + 1) b I J) : Op47 (Iv n) b I J a1 a2 a3 a4 := by
  obtain ⟨B, nb, h⟩ := h
  obtain ⟨m, t1, t2, t3, t4⟩ := h.2.2.2.2.2.1
  obtain ⟨I0, hI0⟩ : ∃ I0, I0 = ui I m_self f_Model_thrown 0 := ⟨_, rfl⟩
  have sT : Sm [(m_self, some f_Model_thrown)] I I0 := by rw [hI0]; exact th_s I 0
  have z : I0 m_self f_Model_thrown = 0 := by rw [hI0, ui_r]
  have e3 : I0 m_self f_Model_rowMany = nI m := by rw [sT _ _ rfl]; exact t3
  rcases i_case a1 m (by omega) with ⟨i, hi, rfl⟩ | ⟨hn, _⟩
  · left
    refine ⟨J x_told_numbers i, J x_told_numbers i, I0, uj J 128 0 _, ?_, ?_, ?_, by rw [uj_r], rfl, Iv_out h sT⟩
    · unfold F_X11_row
      rw [if_neg (n_nn (by omega)), if_pos (by rw [t2, n_lt] <;> omega)]
      simp (disch := omega) only [n_bx, n_cl]
    · unfold F_X12_row
      simp only [lb]
      rw [← hI0]
      rw [e3]
      simp only [lit32, litL]
      rw [(in_x (n := m) (by omega)).1 ⟨i, hi, rfl⟩]
      simp (disch := omega) only [cp, Option.bind_some, n_bx, n_cl]
      rw [if_neg (by decide), uj_c (by decide), t4 i hi]
    · unfold F_X12_thrown; rw [z]
  · right
    refine ⟨Int32.toInt64 0, ui (I0) m_self f_Model_thrown 1, J, ?_, ?_, ?_, IV_th h (Sm.mi rfl sT) Sm.rf⟩
    · unfold F_X11_row
      by_cases c : a1 < 0
      · rw [if_pos c]
      · rw [if_neg c, if_neg]
        rw [t2]
        rcases hn with hn | hn
        · exact absurd hn c
        · rw [i_le, n_int (by omega)] at hn
          rw [i_lt, n_int (by omega)]; omega
    · unfold F_X12_row
      simp only [lb]
      rw [← hI0]
      rw [e3]
      simp only [lit32, litL]
      rw [(in_x (n := m) (by omega)).2 hn]
      simp only [cp, Option.bind_some]
      rw [if_pos (by decide)]; rfl
    · unfold F_X12_thrown; rw [ui_r]
theorem OP46 (n : Nat) (b : Bool) (I : HI) (J : HJ) (a1 a2 a3 a4 : Int32) (h : Iv (n + 1) b I J) : Op46 (Iv n) b I J a1 a2 a3 a4 := by
  obtain ⟨B, nb, h⟩ := h
  have hX := h.2.1
  have sT := th_s I 0
  have hM2 : MB B (ui I m_self f_Model_thrown 0) := h.2.2.1.keep (Ag.of sT (by decide))
  obtain ⟨t, _, t2, t3, _⟩ := h.2.2.2.2.2.1
  obtain ⟨p, _, p2, p3, _⟩ := h.2.2.2.2.2.2.1
  obtain ⟨n1, n2, _, _, m, _, n6, n7, _⟩ := h.2.2.2.2.1
  have hT := h.2.2.2.1.1
  have e0 : bx (0 : Int32) 3 (some (ui I m_self f_Model_thrown 0 m_sets (0 : Int32).toNatClampNeg, ui I m_self f_Model_thrown 0, J)) = some (nI (bS B), ui I m_self f_Model_thrown 0, J) := by
    have : ui I m_self f_Model_thrown 0 m_sets (0 : Int32).toNatClampNeg = nI (bS B) := hM2.2.2.1
    rw [this]; rfl
  have key : F_X12_count a1 I J = (F_X11_count a1 I J).map (fun r => (r, ui I m_self f_Model_thrown 0, J)) := by
    unfold F_X12_count F_X11_count
    simp only [lb]
    rw [e0, hM2.1, hM2.2.1, sT m_self f_Model_shownHigh rfl, sT m_self f_Model_shownLow rfl, sT m_self f_Model_seenMany rfl, sT m_self f_Model_testMany rfl, sT m_self f_Model_rowMany rfl, sT m_self f_Model_typed rfl, hX.1, hX.2.1, hX.2.2.1, n1, n2, n6, n7, t2, t3, p2, p3, hT]
    by_cases c0 : a1 = 0
    · rw [if_pos c0, if_pos c0]; rfl
    rw [if_neg c0, if_neg c0]
    by_cases c1 : a1 = 1
    · rw [if_pos c1, if_pos c1]; rfl
    rw [if_neg c1, if_neg c1]
    by_cases c2 : a1 = 2
    · rw [if_pos c2, if_pos c2]; rfl
    rw [if_neg c2, if_neg c2]
    by_cases c3 : a1 = 3
    · rw [if_pos c3, if_pos c3]; rfl
    rw [if_neg c3, if_neg c3]
    by_cases c4 : a1 = 4
    · rw [if_pos c4, if_pos c4]; rfl
    rw [if_neg c4, if_neg c4]
    by_cases c5 : a1 = 5
    · rw [if_pos c5, if_pos c5]; rfl
    rw [if_neg c5, if_neg c5]
    by_cases c6 : a1 = 6
    · rw [if_pos c6, if_pos c6]; rfl
    rw [if_neg c6, if_neg c6]
    by_cases c7 : a1 = 7
    · rw [if_pos c7, if_pos c7]; rfl
    rw [if_neg c7, if_neg c7]
    by_cases c8 : a1 = 8
    · rw [if_pos c8, if_pos c8]; rfl
    rw [if_neg c8, if_neg c8]
    rfl
  have hs : ∃ r, F_X11_count a1 I J = some r := by
    unfold F_X11_count
    repeat' split
    all_goals exact ⟨_, rfl⟩
  obtain ⟨r, hr⟩ := hs
  exact ⟨r, ui I m_self f_Model_thrown 0, J, hr, by rw [key, hr]; rfl, IV_th h sT Sm.rf⟩
theorem X7_size {B : Bd} (hB : OkB B) {I : HI} {J : HJ} (hX : XB B I J) : F_X7_size I J = some (nI (nF B)) := by
  unfold F_X7_size
  rw [X7_turned hB.1 hB.2.1 hX.1, hX.2.1]
  simp only [cp, Option.bind_some, nI_add]; rfl
theorem X12_faultMany {B : Bd} (hB : OkB B) {I : HI} {J : HJ} (hM : MB B I) : F_X12_faultMany I J = some (nI (nF B)) := by
  unfold F_X12_faultMany
  rw [X12_turned hB.1 hB.2.1 hM.1, hM.2.1]
  simp only [cp, Option.bind_some, nI_add]; rfl
theorem nF_le {B : Bd} (hB : OkB B) : nF B ≤ 116 := by
  have h1 := hB.2.1
  have h2 := hB.2.2.1
  have h3 := nP_le h1
  unfold nF; omega
theorem X7_has {B : Bd} (hB : OkB B) {x : Int32} {I : HI} {J : HJ} (hX : XB B I J) : ((∃ i, i < nF B ∧ x = nI i) → F_X7_has x I J = some (nI 1)) ∧ ((x < 0 ∨ nI (nF B) ≤ x) → F_X7_has x I J = some (nI 0)) := by
  have hl := nF_le hB
  unfold F_X7_has
  rw [X7_size hB hX]
  constructor
  · rintro ⟨i, hi, rfl⟩
    rw [if_neg (n_nn (by omega))]
    simp only [cp, Option.bind_some]
    rw [if_neg (by rw [n_le] <;> omega)]; rfl
  · intro h
    by_cases c : x < 0
    · rw [if_pos c]; rfl
    · rw [if_neg c]
      simp only [cp, Option.bind_some]
      rw [if_pos (by rcases h with h | h; exact absurd h c; exact h)]; rfl
theorem X12_isFault {B : Bd} (hB : OkB B) {x : Int32} {I : HI} {J : HJ} (hM : MB B I) : ((∃ i, i < nF B ∧ x = nI i) → F_X12_isFault x I J = some (nI 1)) ∧ ((x < 0 ∨ nI (nF B) ≤ x) → F_X12_isFault x I J = some (nI 0)) := by
  have hl := nF_le hB
  unfold F_X12_isFault
  rw [X12_faultMany hB hM]
  simp only [cp, Option.bind_some, lit32, litL]
  obtain ⟨h1, h2⟩ := in_x (x := x) (n := nF B) (by omega)
  exact ⟨fun h => by rw [h1 h]; simp only [Option.bind_some, g01_1], fun h => by rw [h2 h]; simp only [Option.bind_some, g01_0]⟩
/-- what a call of the reference alone, with no more than these places, leaves -/
theorem IV_m {n : Nat} {B : Bd} {nb : Nat} {I I2 : HI} {J J2 : HJ} {b : Bool} {vi vj : Pl} (h : IV (n + 1) B nb I J) (t1 : Sm vi I I2) (t2 : Sm vj J J2) (d1 : dd rdXBi rdXBj [] [] vi vj = true) (d2 : dd rdMB [] [] [] vi vj = true) (d3 : dd rdText [] [] [] vi vj = true) (d4 : dd rdNi rdNj [] [] vi vj = true) (d5 : dd rdTi rdTj [] [] vi vj = true) (d6 : dd rdPi [] [] [] vi vj = true) (d7 : dd rdK0i rdK0j [] [] vi vj = true) (d8 : dd rdK1i rdK1j [] [] vi vj = true) (d9 : dd rdTbi rdTbj [] [] vi vj = true) (d10 : dd [(x_flow, some f_Flow_watched)] [(x_flow, some f_Flow_lit), (x_flow_light, none)] [] [] vi vj = true) (d11 : dd rdMo [] [] [] vi vj = true) (d12 : dd [(m_self, some f_Model_boards)] [] [] [] vi vj = true) : Iv n b I2 J2 := by
  obtain ⟨kX, kM, kTx, kN, kTo, kP, k0, k1, kTb, kF, kMo, kB⟩ := IV_k h (Sm.rf (w := [])) (Sm.rf (w := [])) t1 t2
  exact ⟨B, nb, h.1, kX d1, kM d2, kTx d3, kN d4, kTo d5, kP d6, k0 d7, k1 d8, kTb d9, kF d10, kMo d11, kB d12⟩
theorem OP31 (n : Nat) (b : Bool) (I : HI) (J : HJ) (a1 a2 a3 a4 : Int32) (h : Iv (n + 1) b I J) : Op31 (Iv n) b I J a1 a2 a3 a4 := by
  obtain ⟨B, nb, h⟩ := h
  have hB := h.1
  have h2 := hB.1
  have hW := hB.2.1
  have hl := nF_le hB
  have hX := h.2.1
  have hM := h.2.2.1
  obtain ⟨I0, hI0⟩ : ∃ I0, I0 = ui I m_self f_Model_thrown 0 := ⟨_, rfl⟩
  have sT : Sm [(m_self, some f_Model_thrown)] I I0 := by rw [hI0]; exact th_s I 0
  have z : I0 m_self f_Model_thrown = 0 := by rw [hI0, ui_r]
  have hM2 : MB B (I0) := hM.keep (Ag.of sT (by decide))
  have z2 : (2 : Int64) = lN (3 - 1) := rfl
  have z0 : (0 : Int64) = lN 0 := rfl
  have lost : ∀ J', (cl (F_X12_lost (I0) J') fun r5 I6 J7 => some (r5, I6, J7)) = some (0, ui (I0) m_self f_Model_thrown 1, J') := fun _ => rfl
  have hlo : Iv n b (ui (I0) m_self f_Model_thrown 1) J := IV_th h (Sm.mi rfl sT) Sm.rf
  rcases i_case a1 (nF B) (by omega) with ⟨f, hf, rfl⟩ | ⟨hn, _⟩
  · rcases i_case a2 3 (by omega) with ⟨j, hj, rfl⟩ | ⟨hn2, _⟩
    · left
      have hc : j = 0 ∨ j = 1 ∨ j = 2 := by omega
      have hkk : ftK (bW B) f ≤ 3 := by rcases fK_cases hB hf with ⟨hk, _⟩ | ⟨hk, _⟩ | ⟨hk, _⟩ | ⟨hk, _⟩ <;> omega
      obtain ⟨w, hw⟩ : ∃ w, w = (if j = 0 then nI (ftK (bW B) f) else if j = 1 then fAi (bW B) f else fBi (bW B) f) := ⟨_, rfl⟩
      have hXe : F_X11_fault (nI f) (nI j) I J = some (some w) := by
        unfold F_X11_fault
        rw [(X7_has hB hX).1 ⟨f, hf, rfl⟩, X7_kind h2 hW (by omega) hX.1, X7_first h2 hW (by omega) hX.1, X7_second h2 hW (by omega) hX.1]
        simp (disch := omega) only [cp, Option.bind_some, lit32, n_lt, n_le, n_eq]
        rw [hw]
        rcases hc with rfl | rfl | rfl <;> rfl
      have hMe := (X12_findFault hB hf (I0) (uj J 128 0 (Int32.toInt64 w)) hM2.1).fo (fr_X12_findFault _ _ _)
      obtain ⟨⟨u, I3, J3⟩, e3, ⟨g1, g2⟩, g3, g4⟩ := hMe
      simp only at g1 g2 g3 g4
      have hM3 : MB B I3 := hM2.keep (Ag.of g3 (by decide))
      refine ⟨w, w, I3, J3, hXe, ?_, ?_, ?_, rfl, ?_⟩
      · unfold F_X12_fault_
        simp only [lb]
        rw [← hI0]
        rw [(X12_isFault hB hM2).1 ⟨f, hf, rfl⟩, z2, z0, (in_c (n := 3) (by omega) (by omega)).1 ⟨j, hj, rfl⟩, e3]
        simp only [cp, cl, Option.bind_some]
        rw [X12_kind h2 hW (by omega) hM3.1]
        simp (disch := omega) only [Option.bind_some, lit32, n_eq, g1, g2]
        rw [hw]
        rcases hc with rfl | rfl | rfl <;> rfl
      · unfold F_X12_thrown; rw [g3 _ _ rfl, z]
      · rw [g4 _ _ rfl, uj_r]
      · have sJ : Sm [(o_out, none)] J (uj J 128 0 (Int32.toInt64 w)) := Sm.mj rfl Sm.rf
        obtain ⟨kX, kM, kTx, kN, kTo, kP, k0, k1, kTb, kF, kMo, kB⟩ := IV_k h sT sJ g3 g4
        exact ⟨B, nb, h.1, kX (by decide), kM (by decide), kTx (by decide), kN (by decide), kTo (by decide), kP (by decide), k0 (by decide), k1 (by decide), kTb (by decide), kF (by decide), kMo (by decide), kB (by decide)⟩
    · right
      refine ⟨0, _, J, ?_, ?_, ?_, hlo⟩
      · unfold F_X11_fault
        rw [(X7_has hB hX).1 ⟨f, hf, rfl⟩]
        simp only [cp, Option.bind_some]
        rw [if_neg (by decide)]
        rcases c_le (n := 2) (by omega) hn2 with c | ⟨c1, c2⟩
        · rw [if_pos c]
        · rw [if_neg c1, if_neg (show ¬ a2 ≤ (2 : Int32) from c2)]
      · unfold F_X12_fault_
        simp only [lb]
        rw [← hI0]
        rw [(X12_isFault hB hM2).1 ⟨f, hf, rfl⟩, z2, z0, (in_c (n := 3) (by omega) (by omega)).2 hn2]
        simp only [cp, Option.bind_some]
        rw [if_neg (by decide), if_pos (by decide), lost]
      · unfold F_X12_thrown; rw [ui_r]
  · right
    refine ⟨0, _, J, ?_, ?_, ?_, hlo⟩
    · unfold F_X11_fault
      rw [(X7_has hB hX).2 hn]; rfl
    · unfold F_X12_fault_
      simp only [lb]
      rw [← hI0]
      rw [(X12_isFault hB hM2).2 hn]
      simp only [cp, Option.bind_some]
      rw [if_pos (by decide), lost]
    · unfold F_X12_thrown; rw [ui_r]

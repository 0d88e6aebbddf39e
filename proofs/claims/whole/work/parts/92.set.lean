/-! LAYER 2: calls: set -/
def ub (B : Bd) (c i v : Nat) : Bd := fun a j => if a = c ∧ j = i then v else B a j
theorem ub_r (B : Bd) (c i v : Nat) : ub B c i v c i = v := by unfold ub; rw [if_pos ⟨rfl, rfl⟩]
theorem ub_c {B : Bd} {c i v a j : Nat} (h : a ≠ c) : ub B c i v a j = B a j := by unfold ub; rw [if_neg (fun hh => h hh.1)]
theorem ub_j {B : Bd} {c i v a j : Nat} (h : j ≠ i) : ub B c i v a j = B a j := by unfold ub; rw [if_neg (fun hh => h hh.2)]
theorem KP.cw {B B' : Bd} {nb i ck cf cg cv cn cp ca cb cl : Nat} {I : HI} {J : HJ} (h : KP B nb i ck cf cg cv cn cp ca cb cl I J) (e : bW B' = bW B) : KP B' nb i ck cf cg cv cn cp ca cb cl I J := by
  unfold KP at *; rw [e]; exact h
theorem CNote.cw {B B' : Bd} {I : HI} {J : HJ} (h : CNote B I J) (e : bW B' = bW B) (e2 : bL B' = bL B) : CNote B' I J := by
  unfold CNote at *; rw [e, e2]; exact h
theorem CPlan.cw {B B' : Bd} {I : HI} (h : CPlan B I) (e : bW B' = bW B) : CPlan B' I := by
  unfold CPlan at *; rw [e]; exact h
theorem tab_n {B : Bd} {I : HI} {J : HJ} (h : I x_table f_Table_fresh = 0) : CTab B I J := ⟨false, h, fun h => by cases h⟩
theorem i_gt {x : Int32} {n : Nat} (hn : n < 1000) : nI n < x ↔ (n : Int) < x.toInt := by rw [i_lt, n_int (by omega)]
theorem i_lt' {x : Int32} {n : Nat} (hn : n < 1000) : x < nI n ↔ x.toInt < (n : Int) := by rw [i_lt, n_int (by omega)]
theorem in_r (x : Int32) (lo hi : Nat) (h1 : lo < 1000) (h2 : hi < 1000) : ((lo : Int) ≤ x.toInt ∧ x.toInt ≤ (hi : Int) → F_X12_in (Int32.toInt64 x) (lN lo) (lN hi) = some (nI 1)) ∧ (¬ ((lo : Int) ≤ x.toInt ∧ x.toInt ≤ (hi : Int)) → F_X12_in (Int32.toInt64 x) (lN lo) (lN hi) = some (nI 0)) := by
  rw [in_spec, l_i, L_int (by omega), L_int (by omega)]
  exact ⟨fun h => by rw [if_pos h]; rfl, fun h => by rw [if_neg h]; rfl⟩
theorem set_supply {n : Nat} {b : Bool} {I : HI} {J : HJ} {B : Bd} {nb : Nat} (h : IV (n + 1) B nb I J) (v : Nat) (h1 : 1 ≤ v) (h2 : v ≤ 20) : ∃ (r : Int32) (I1 : HI) (J1 : HJ) (I2 : HI) (J2 : HJ), F_X11_set (nI 0) (nI v) I J = some (r, I1, J1) ∧ F_X12_set (nI 0) (nI v) I1 J1 = some (r, I2, J2) ∧ Iv n b I2 J2 := by
  have hB := h.1
  have hX := h.2.1
  have hM := h.2.2.1
  have hwas : bS B ≤ 99 := by have := hB.2.2.2.2.1; have := hB.2.2.2.2.2.2.1; have := hB.2.2.2.2.2.2.2.1; omega
  obtain ⟨I1, hI1⟩ : ∃ I1, I1 = ui (ui I x_board f_Board_supply (nI v)) x_table f_Table_fresh 0 := ⟨_, rfl⟩
  obtain ⟨I2, hI2⟩ : ∃ I2, I2 = ui (ui I1 m_self f_Model_thrown 0) m_sets 0 (nI v) := ⟨_, rfl⟩
  have s1 : Sm [(x_board, some f_Board_supply), (x_table, some f_Table_fresh)] I I1 := by rw [hI1]; exact Sm.mi rfl (Sm.mi rfl Sm.rf)
  have s2' : Sm [(x_table, some f_Table_fresh), (m_self, some f_Model_thrown), (m_sets, none)] (ui I x_board f_Board_supply (nI v)) I2 := by rw [hI2, hI1]; exact Sm.mi rfl (Sm.mi rfl (Sm.mi rfl Sm.rf))
  have t1 : Sm [(m_self, some f_Model_thrown), (m_sets, none)] I1 I2 := by rw [hI2]; exact Sm.mi rfl (Sm.mi rfl Sm.rf)
  refine ⟨nI (bS B), I1, J, I2, J, ?_, ?_, ?_⟩
  · unfold F_X11_set
    simp only [lb]
    have q : I x_board f_Board_supply = nI (bS B) := hX.2.2.1
    have c1 : ¬ nI v < (1 : Int32) := (by rw [n_lt (by omega) (by omega)]; omega : ¬ nI v < nI 1)
    have c2 : ¬ (20 : Int32) < nI v := (by rw [n_lt (by omega) (by omega)]; omega : ¬ nI 20 < nI v)
    have c3 : ¬ nI (bS B) = (-1 : Int32) := fun hh => (n_ne1 (by omega)).mp hh

    rw [if_pos (show nI 0 = (0 : Int32) from rfl), if_neg c1, if_neg c2, q, if_neg c3, hI1]
  · unfold F_X12_set
    simp only [lb]
    obtain ⟨I3, hI3⟩ : ∃ I3, I3 = ui I1 m_self f_Model_thrown 0 := ⟨_, rfl⟩
    rw [← hI3] at hI2 ⊢
    have s3 : Sm [(m_self, some f_Model_thrown)] I1 I3 := by rw [hI3]; exact th_s I1 0
    have q : I3 m_sets 0 = nI (bS B) := by rw [s3 _ _ rfl, s1 _ _ rfl]; exact hM.2.2.1
    have r0 : F_X12_in (Int32.toInt64 (nI 0)) (0 : Int64) (2 : Int64) = some (nI 1) := (in_r (nI 0) 0 2 (by omega) (by omega)).1 (by rw [n_int (by omega)]; omega)
    have r1 : F_X12_in (Int32.toInt64 (nI v)) (1 : Int64) (20 : Int64) = some (nI 1) := (in_r (nI v) 1 20 (by omega) (by omega)).1 (by rw [n_int (by omega)]; omega)
    rw [r0]
    simp only [cp, Option.bind_some]
    rw [if_neg (show ¬ nI 1 = (0 : Int32) by decide)]
    rw [if_neg (show ¬ nI 0 = (2 : Int32) by decide), if_pos (show nI 0 = (0 : Int32) from rfl)]
    rw [r1]
    simp (disch := omega) only [Option.bind_some, n_bx, n_cl, q]
    rw [if_neg (show ¬ nI 1 = (0 : Int32) by decide), hI2]
  · have hXB : XB (ub B 0 2 v) I2 J := ⟨by rw [s2' _ _ rfl, ui_j (by decide)]; exact hX.1, by rw [s2' _ _ rfl, ui_j (by decide)]; exact hX.2.1, by rw [s2' _ _ rfl, ui_r]; rfl, by rw [s2' _ _ rfl, ui_j (by decide)]; exact hX.2.2.2.1, by rw [s2' _ _ rfl, ui_j (by decide)]; exact hX.2.2.2.2.1, fun w hw => by rw [t1 _ _ rfl, s1 _ _ rfl]; exact hX.2.2.2.2.2.1 w hw, fun l hl => by rw [t1 _ _ rfl, t1 _ _ rfl, t1 _ _ rfl, s1 _ _ rfl, s1 _ _ rfl, s1 _ _ rfl]; exact hX.2.2.2.2.2.2.1 l hl, hX.2.2.2.2.2.2.2⟩
    have hMB : MB (ub B 0 2 v) I2 := ⟨by rw [t1 _ _ rfl, s1 _ _ rfl]; exact hM.1, by rw [t1 _ _ rfl, s1 _ _ rfl]; exact hM.2.1, by rw [hI2, ui_r]; rfl, by rw [hI2, ui_j (by decide), ui_c (by decide), s1 _ _ rfl]; exact hM.2.2.2.1, by rw [hI2, ui_j (by decide), ui_c (by decide), s1 _ _ rfl]; exact hM.2.2.2.2.1, fun w hw => by rw [t1 _ _ rfl, s1 _ _ rfl]; exact hM.2.2.2.2.2.1 w hw, fun l hl => by rw [t1 _ _ rfl, t1 _ _ rfl, t1 _ _ rfl, s1 _ _ rfl, s1 _ _ rfl, s1 _ _ rfl]; exact hM.2.2.2.2.2.2 l hl⟩
    obtain ⟨_, _, kTx, kN, kTo, kP, k0, k1, _, kF, kMo, kB⟩ := IV_k h s1 (Sm.rf (w := [])) t1 (Sm.rf (w := []))
    exact ⟨ub B 0 2 v, nb, ⟨hB.1, hB.2.1, hB.2.2.1, by show 1 ≤ v; omega, by show v ≤ 20; omega, hB.2.2.2.2.2.1, hB.2.2.2.2.2.2.1, hB.2.2.2.2.2.2.2.1, hB.2.2.2.2.2.2.2.2.1, hB.2.2.2.2.2.2.2.2.2⟩, hXB, hMB, kTx (by decide), (kN (by decide)).cw rfl rfl, kTo (by decide), (kP (by decide)).cw rfl, KP.cw (k0 (by decide)) rfl, KP.cw (k1 (by decide)) rfl, tab_n (by rw [t1 _ _ rfl, hI1, ui_r]), kF (by decide), kMo (by decide), kB (by decide)⟩
theorem set_depth {n : Nat} {b : Bool} {I : HI} {J : HJ} {B : Bd} {nb : Nat} (h : IV (n + 1) B nb I J) (v : Nat) (h1 : 1 ≤ v) (h2 : v ≤ 3) : ∃ (r : Int32) (I1 : HI) (J1 : HJ) (I2 : HI) (J2 : HJ), F_X11_set (nI 1) (nI v) I J = some (r, I1, J1) ∧ F_X12_set (nI 1) (nI v) I1 J1 = some (r, I2, J2) ∧ Iv n b I2 J2 := by
  have hB := h.1
  have hX := h.2.1
  have hM := h.2.2.1
  have hwas : bD B ≤ 99 := by have := hB.2.2.2.2.1; have := hB.2.2.2.2.2.2.1; have := hB.2.2.2.2.2.2.2.1; omega
  obtain ⟨I1, hI1⟩ : ∃ I1, I1 = ui (ui I x_board f_Board_depth (nI v)) x_table f_Table_fresh 0 := ⟨_, rfl⟩
  obtain ⟨I2, hI2⟩ : ∃ I2, I2 = ui (ui I1 m_self f_Model_thrown 0) m_sets 1 (nI v) := ⟨_, rfl⟩
  have s1 : Sm [(x_board, some f_Board_depth), (x_table, some f_Table_fresh)] I I1 := by rw [hI1]; exact Sm.mi rfl (Sm.mi rfl Sm.rf)
  have s2' : Sm [(x_table, some f_Table_fresh), (m_self, some f_Model_thrown), (m_sets, none)] (ui I x_board f_Board_depth (nI v)) I2 := by rw [hI2, hI1]; exact Sm.mi rfl (Sm.mi rfl (Sm.mi rfl Sm.rf))
  have t1 : Sm [(m_self, some f_Model_thrown), (m_sets, none)] I1 I2 := by rw [hI2]; exact Sm.mi rfl (Sm.mi rfl Sm.rf)
  refine ⟨nI (bD B), I1, J, I2, J, ?_, ?_, ?_⟩
  · unfold F_X11_set
    simp only [lb]
    have q : I x_board f_Board_depth = nI (bD B) := hX.2.2.2.1
    have c1 : ¬ nI v < (1 : Int32) := (by rw [n_lt (by omega) (by omega)]; omega : ¬ nI v < nI 1)
    have c2 : ¬ (3 : Int32) < nI v := (by rw [n_lt (by omega) (by omega)]; omega : ¬ nI 3 < nI v)
    have c3 : ¬ nI (bD B) = (-1 : Int32) := fun hh => (n_ne1 (by omega)).mp hh

    rw [if_neg (show ¬ nI 1 = (0 : Int32) by decide), if_pos (show nI 1 = (1 : Int32) from rfl), if_neg c1, if_neg c2, q, if_neg c3, hI1]
  · unfold F_X12_set
    simp only [lb]
    obtain ⟨I3, hI3⟩ : ∃ I3, I3 = ui I1 m_self f_Model_thrown 0 := ⟨_, rfl⟩
    rw [← hI3] at hI2 ⊢
    have s3 : Sm [(m_self, some f_Model_thrown)] I1 I3 := by rw [hI3]; exact th_s I1 0
    have q : I3 m_sets 1 = nI (bD B) := by rw [s3 _ _ rfl, s1 _ _ rfl]; exact hM.2.2.2.1
    have r0 : F_X12_in (Int32.toInt64 (nI 1)) (0 : Int64) (2 : Int64) = some (nI 1) := (in_r (nI 1) 0 2 (by omega) (by omega)).1 (by rw [n_int (by omega)]; omega)
    have r1 : F_X12_in (Int32.toInt64 (nI v)) (1 : Int64) (3 : Int64) = some (nI 1) := (in_r (nI v) 1 3 (by omega) (by omega)).1 (by rw [n_int (by omega)]; omega)
    rw [r0]
    simp only [cp, Option.bind_some]
    rw [if_neg (show ¬ nI 1 = (0 : Int32) by decide)]
    rw [if_neg (show ¬ nI 1 = (2 : Int32) by decide), if_neg (show ¬ nI 1 = (0 : Int32) by decide), if_pos (show nI 1 = (1 : Int32) from rfl)]
    rw [r1]
    simp (disch := omega) only [Option.bind_some, n_bx, n_cl, q]
    rw [if_neg (show ¬ nI 1 = (0 : Int32) by decide), hI2]
  · have hXB : XB (ub B 0 3 v) I2 J := ⟨by rw [s2' _ _ rfl, ui_j (by decide)]; exact hX.1, by rw [s2' _ _ rfl, ui_j (by decide)]; exact hX.2.1, by rw [s2' _ _ rfl, ui_j (by decide)]; exact hX.2.2.1, by rw [s2' _ _ rfl, ui_r]; rfl, by rw [s2' _ _ rfl, ui_j (by decide)]; exact hX.2.2.2.2.1, fun w hw => by rw [t1 _ _ rfl, s1 _ _ rfl]; exact hX.2.2.2.2.2.1 w hw, fun l hl => by rw [t1 _ _ rfl, t1 _ _ rfl, t1 _ _ rfl, s1 _ _ rfl, s1 _ _ rfl, s1 _ _ rfl]; exact hX.2.2.2.2.2.2.1 l hl, hX.2.2.2.2.2.2.2⟩
    have hMB : MB (ub B 0 3 v) I2 := ⟨by rw [t1 _ _ rfl, s1 _ _ rfl]; exact hM.1, by rw [t1 _ _ rfl, s1 _ _ rfl]; exact hM.2.1, by rw [hI2, ui_j (by decide), ui_c (by decide), s1 _ _ rfl]; exact hM.2.2.1, by rw [hI2, ui_r]; rfl, by rw [hI2, ui_j (by decide), ui_c (by decide), s1 _ _ rfl]; exact hM.2.2.2.2.1, fun w hw => by rw [t1 _ _ rfl, s1 _ _ rfl]; exact hM.2.2.2.2.2.1 w hw, fun l hl => by rw [t1 _ _ rfl, t1 _ _ rfl, t1 _ _ rfl, s1 _ _ rfl, s1 _ _ rfl, s1 _ _ rfl]; exact hM.2.2.2.2.2.2 l hl⟩
    obtain ⟨_, _, kTx, kN, kTo, kP, k0, k1, _, kF, kMo, kB⟩ := IV_k h s1 (Sm.rf (w := [])) t1 (Sm.rf (w := []))
    exact ⟨ub B 0 3 v, nb, ⟨hB.1, hB.2.1, hB.2.2.1, hB.2.2.2.1, hB.2.2.2.2.1, by show 1 ≤ v; omega, by show v ≤ 3; omega, hB.2.2.2.2.2.2.2.1, hB.2.2.2.2.2.2.2.2.1, hB.2.2.2.2.2.2.2.2.2⟩, hXB, hMB, kTx (by decide), (kN (by decide)).cw rfl rfl, kTo (by decide), (kP (by decide)).cw rfl, KP.cw (k0 (by decide)) rfl, KP.cw (k1 (by decide)) rfl, tab_n (by rw [t1 _ _ rfl, hI1, ui_r]), kF (by decide), kMo (by decide), kB (by decide)⟩
theorem set_faint {n : Nat} {b : Bool} {I : HI} {J : HJ} {B : Bd} {nb : Nat} (h : IV (n + 1) B nb I J) (v : Nat) (h1 : 0 ≤ v) (h2 : v ≤ 99) : ∃ (r : Int32) (I1 : HI) (J1 : HJ) (I2 : HI) (J2 : HJ), F_X11_set (nI 2) (nI v) I J = some (r, I1, J1) ∧ F_X12_set (nI 2) (nI v) I1 J1 = some (r, I2, J2) ∧ Iv n b I2 J2 := by
  have hB := h.1
  have hX := h.2.1
  have hM := h.2.2.1
  have hwas : bF B ≤ 99 := by have := hB.2.2.2.2.1; have := hB.2.2.2.2.2.2.1; have := hB.2.2.2.2.2.2.2.1; omega
  obtain ⟨I1, hI1⟩ : ∃ I1, I1 = ui (ui I x_board f_Board_faint (nI v)) x_table f_Table_fresh 0 := ⟨_, rfl⟩
  obtain ⟨I2, hI2⟩ : ∃ I2, I2 = ui (ui I1 m_self f_Model_thrown 0) m_sets 2 (nI v) := ⟨_, rfl⟩
  have s1 : Sm [(x_board, some f_Board_faint), (x_table, some f_Table_fresh)] I I1 := by rw [hI1]; exact Sm.mi rfl (Sm.mi rfl Sm.rf)
  have s2' : Sm [(x_table, some f_Table_fresh), (m_self, some f_Model_thrown), (m_sets, none)] (ui I x_board f_Board_faint (nI v)) I2 := by rw [hI2, hI1]; exact Sm.mi rfl (Sm.mi rfl (Sm.mi rfl Sm.rf))
  have t1 : Sm [(m_self, some f_Model_thrown), (m_sets, none)] I1 I2 := by rw [hI2]; exact Sm.mi rfl (Sm.mi rfl Sm.rf)
  refine ⟨nI (bF B), I1, J, I2, J, ?_, ?_, ?_⟩
  · unfold F_X11_set
    simp only [lb]
    have q : I x_board f_Board_faint = nI (bF B) := hX.2.2.2.2.1
    have c1 : ¬ nI v < (0 : Int32) := (by rw [n_lt (by omega) (by omega)]; omega : ¬ nI v < nI 0)
    have c2 : ¬ (99 : Int32) < nI v := (by rw [n_lt (by omega) (by omega)]; omega : ¬ nI 99 < nI v)
    have c3 : ¬ nI (bF B) = (-1 : Int32) := fun hh => (n_ne1 (by omega)).mp hh

    rw [if_neg (show ¬ nI 2 = (0 : Int32) by decide), if_neg (show ¬ nI 2 = (1 : Int32) by decide), if_pos (show nI 2 = (2 : Int32) from rfl), if_neg c1, if_neg c2, q, if_neg c3, hI1]
  · unfold F_X12_set
    simp only [lb]
    obtain ⟨I3, hI3⟩ : ∃ I3, I3 = ui I1 m_self f_Model_thrown 0 := ⟨_, rfl⟩
    rw [← hI3] at hI2 ⊢
    have s3 : Sm [(m_self, some f_Model_thrown)] I1 I3 := by rw [hI3]; exact th_s I1 0
    have q : I3 m_sets 2 = nI (bF B) := by rw [s3 _ _ rfl, s1 _ _ rfl]; exact hM.2.2.2.2.1
    have r0 : F_X12_in (Int32.toInt64 (nI 2)) (0 : Int64) (2 : Int64) = some (nI 1) := (in_r (nI 2) 0 2 (by omega) (by omega)).1 (by rw [n_int (by omega)]; omega)
    have r1 : F_X12_in (Int32.toInt64 (nI v)) (0 : Int64) (99 : Int64) = some (nI 1) := (in_r (nI v) 0 99 (by omega) (by omega)).1 (by rw [n_int (by omega)]; omega)
    rw [r0]
    simp only [cp, Option.bind_some]
    rw [if_neg (show ¬ nI 1 = (0 : Int32) by decide)]
    rw [if_pos (show nI 2 = (2 : Int32) from rfl), if_neg (show ¬ nI 2 = (0 : Int32) by decide), if_neg (show ¬ nI 2 = (1 : Int32) by decide)]
    rw [r1]
    simp (disch := omega) only [Option.bind_some, n_bx, n_cl, q]
    rw [if_neg (show ¬ nI 1 = (0 : Int32) by decide), hI2]
  · have hXB : XB (ub B 0 4 v) I2 J := ⟨by rw [s2' _ _ rfl, ui_j (by decide)]; exact hX.1, by rw [s2' _ _ rfl, ui_j (by decide)]; exact hX.2.1, by rw [s2' _ _ rfl, ui_j (by decide)]; exact hX.2.2.1, by rw [s2' _ _ rfl, ui_j (by decide)]; exact hX.2.2.2.1, by rw [s2' _ _ rfl, ui_r]; rfl, fun w hw => by rw [t1 _ _ rfl, s1 _ _ rfl]; exact hX.2.2.2.2.2.1 w hw, fun l hl => by rw [t1 _ _ rfl, t1 _ _ rfl, t1 _ _ rfl, s1 _ _ rfl, s1 _ _ rfl, s1 _ _ rfl]; exact hX.2.2.2.2.2.2.1 l hl, hX.2.2.2.2.2.2.2⟩
    have hMB : MB (ub B 0 4 v) I2 := ⟨by rw [t1 _ _ rfl, s1 _ _ rfl]; exact hM.1, by rw [t1 _ _ rfl, s1 _ _ rfl]; exact hM.2.1, by rw [hI2, ui_j (by decide), ui_c (by decide), s1 _ _ rfl]; exact hM.2.2.1, by rw [hI2, ui_j (by decide), ui_c (by decide), s1 _ _ rfl]; exact hM.2.2.2.1, by rw [hI2, ui_r]; rfl, fun w hw => by rw [t1 _ _ rfl, s1 _ _ rfl]; exact hM.2.2.2.2.2.1 w hw, fun l hl => by rw [t1 _ _ rfl, t1 _ _ rfl, t1 _ _ rfl, s1 _ _ rfl, s1 _ _ rfl, s1 _ _ rfl]; exact hM.2.2.2.2.2.2 l hl⟩
    obtain ⟨_, _, kTx, kN, kTo, kP, k0, k1, _, kF, kMo, kB⟩ := IV_k h s1 (Sm.rf (w := [])) t1 (Sm.rf (w := []))
    exact ⟨ub B 0 4 v, nb, ⟨hB.1, hB.2.1, hB.2.2.1, hB.2.2.2.1, hB.2.2.2.2.1, hB.2.2.2.2.2.1, hB.2.2.2.2.2.2.1, by show v ≤ 99; omega, hB.2.2.2.2.2.2.2.2.1, hB.2.2.2.2.2.2.2.2.2⟩, hXB, hMB, kTx (by decide), (kN (by decide)).cw rfl rfl, kTo (by decide), (kP (by decide)).cw rfl, KP.cw (k0 (by decide)) rfl, KP.cw (k1 (by decide)) rfl, tab_n (by rw [t1 _ _ rfl, hI1, ui_r]), kF (by decide), kMo (by decide), kB (by decide)⟩
theorem OP3 (n : Nat) (b : Bool) (I : HI) (J : HJ) (a1 a2 a3 a4 : Int32) (h : Iv (n + 1) b I J) : Op3 (Iv n) b I J a1 a2 a3 a4 := by
  obtain ⟨B, nb, h⟩ := h
  have no : F_X11_set a1 a2 I J = some (-1, I, J) → F_X12_set a1 a2 I J = some (-1, ui I m_self f_Model_thrown 0, J) → Op3 (Iv n) b I J a1 a2 a3 a4 := fun e1 e2 => ⟨-1, I, J, _, J, e1, e2, IV_th h (th_s I 0) Sm.rf⟩
  rcases i_case a1 3 (by omega) with ⟨w, hw, rfl⟩ | ⟨hn, hn2⟩
  · have hc : w = 0 ∨ w = 1 ∨ w = 2 := by omega
    have r0 : F_X12_in (Int32.toInt64 (nI w)) (0 : Int64) (2 : Int64) = some (nI 1) := (in_r (nI w) 0 2 (by omega) (by omega)).1 (by rw [n_int (by omega)]; omega)
    rcases hc with rfl | rfl | rfl
    · by_cases c : (1 : Int) ≤ a2.toInt ∧ a2.toInt ≤ 20
      · obtain ⟨v, e1, e2, _⟩ := i_of (x := a2) (by omega)
        rw [e1]
        exact set_supply h v (by omega) (by omega)
      · apply no
        · unfold F_X11_set
          simp only [lb]
          rw [if_pos (show nI 0 = (0 : Int32) from rfl)]
          by_cases d : a2 < (1 : Int32)
          · rw [if_pos d]; rfl
          · rw [if_neg d, if_pos (show (20 : Int32) < a2 from (i_gt (n := 20) (by omega)).mpr (by have := mt (i_lt' (n := 1) (by omega)).mpr d; omega))]; rfl
        · unfold F_X12_set
          simp only [lb]
          have r1 : F_X12_in (Int32.toInt64 a2) (1 : Int64) (20 : Int64) = some (nI 0) := (in_r a2 1 20 (by omega) (by omega)).2 (by omega)
          rw [r0]
          simp only [cp, Option.bind_some]
          rw [if_neg (show ¬ nI 1 = (0 : Int32) by decide), if_neg (show ¬ nI 0 = (2 : Int32) by decide), if_pos (show nI 0 = (0 : Int32) from rfl), r1]; rfl
    · by_cases c : (1 : Int) ≤ a2.toInt ∧ a2.toInt ≤ 3
      · obtain ⟨v, e1, e2, _⟩ := i_of (x := a2) (by omega)
        rw [e1]
        exact set_depth h v (by omega) (by omega)
      · apply no
        · unfold F_X11_set
          simp only [lb]
          rw [if_neg (show ¬ nI 1 = (0 : Int32) by decide), if_pos (show nI 1 = (1 : Int32) from rfl)]
          by_cases d : a2 < (1 : Int32)
          · rw [if_pos d]; rfl
          · rw [if_neg d, if_pos (show (3 : Int32) < a2 from (i_gt (n := 3) (by omega)).mpr (by have := mt (i_lt' (n := 1) (by omega)).mpr d; omega))]; rfl
        · unfold F_X12_set
          simp only [lb]
          have r1 : F_X12_in (Int32.toInt64 a2) (1 : Int64) (3 : Int64) = some (nI 0) := (in_r a2 1 3 (by omega) (by omega)).2 (by omega)
          rw [r0]
          simp only [cp, Option.bind_some]
          rw [if_neg (show ¬ nI 1 = (0 : Int32) by decide), if_neg (show ¬ nI 1 = (2 : Int32) by decide), if_neg (show ¬ nI 1 = (0 : Int32) by decide), if_pos (show nI 1 = (1 : Int32) from rfl), r1]; rfl
    · by_cases c : (0 : Int) ≤ a2.toInt ∧ a2.toInt ≤ 99
      · obtain ⟨v, e1, e2, _⟩ := i_of (x := a2) (by omega)
        rw [e1]
        exact set_faint h v (by omega) (by omega)
      · apply no
        · unfold F_X11_set
          simp only [lb]
          rw [if_neg (show ¬ nI 2 = (0 : Int32) by decide), if_neg (show ¬ nI 2 = (1 : Int32) by decide), if_pos (show nI 2 = (2 : Int32) from rfl)]
          by_cases d : a2 < (0 : Int32)
          · rw [if_pos d]; rfl
          · rw [if_neg d, if_pos (show (99 : Int32) < a2 from (i_gt (n := 99) (by omega)).mpr (by have := mt (i_lt' (n := 0) (by omega)).mpr d; omega))]; rfl
        · unfold F_X12_set
          simp only [lb]
          have r1 : F_X12_in (Int32.toInt64 a2) (0 : Int64) (99 : Int64) = some (nI 0) := (in_r a2 0 99 (by omega) (by omega)).2 (by omega)
          rw [r0]
          simp only [cp, Option.bind_some]
          rw [if_neg (show ¬ nI 1 = (0 : Int32) by decide), if_pos (show nI 2 = (2 : Int32) from rfl), if_neg (show ¬ nI 2 = (0 : Int32) by decide), if_neg (show ¬ nI 2 = (1 : Int32) by decide), r1]; rfl
  · apply no
    · unfold F_X11_set
      simp only [lb]
      rw [if_neg (show ¬ a1 = 0 from hn2 0 (by omega)), if_neg (show ¬ a1 = 1 from hn2 1 (by omega)), if_neg (show ¬ a1 = 2 from hn2 2 (by omega))]; rfl
    · unfold F_X12_set
      simp only [lb]
      have r0 : F_X12_in (Int32.toInt64 a1) (0 : Int64) (2 : Int64) = some (nI 0) := (in_c (x := a1) (n := 3) (by omega) (by omega)).2 hn
      rw [r0]; rfl


/-! LAYER 2: again -/
def agB (B : Bd) (n : Nat) (fa fg fv : Nat → Int32) : Bd := fun a j => if a = 0 then (if j = 1 then n else B 0 j) else if a = 2 then (fa j).toInt.toNat else if a = 3 then (fg j).toInt.toNat else if a = 4 then (fv j).toInt.toNat else B a j
theorem agB_ok {B : Bd} (hB : OkB B) {n : Nat} (hn : n ≤ 60) {fa fg fv : Nat → Int32} (h : ∀ l, l < n → ∃ a g v, a < bW B ∧ g < bW B ∧ a ≠ g ∧ 1 ≤ v ∧ v ≤ 9 ∧ fa l = nI a ∧ fg l = nI g ∧ fv l = nI v) : OkB (agB B n fa fg fv) ∧ ∀ l, l < n → fa l = nI (bA (agB B n fa fg fv) l) ∧ fg l = nI (bG (agB B n fa fg fv) l) ∧ fv l = nI (bV (agB B n fa fg fv) l) := by
  have hW := hB.2.1
  have key : ∀ l, l < n → ∃ a g v, a < bW B ∧ g < bW B ∧ a ≠ g ∧ 1 ≤ v ∧ v ≤ 9 ∧ fa l = nI a ∧ fg l = nI g ∧ fv l = nI v ∧ bA (agB B n fa fg fv) l = a ∧ bG (agB B n fa fg fv) l = g ∧ bV (agB B n fa fg fv) l = v := by
    intro l hl
    obtain ⟨a, g, v, h1, h2, h3, h4, h5, h6, h7, h8⟩ := h l hl
    refine ⟨a, g, v, h1, h2, h3, h4, h5, h6, h7, h8, ?_, ?_, ?_⟩
    · show (fa l).toInt.toNat = a; rw [h6, n_int (by omega)]; omega
    · show (fg l).toInt.toNat = g; rw [h7, n_int (by omega)]; omega
    · show (fv l).toInt.toNat = v; rw [h8, n_int (by omega)]; omega
  refine ⟨⟨hB.1, hB.2.1, hn, hB.2.2.2.1, hB.2.2.2.2.1, hB.2.2.2.2.2.1, hB.2.2.2.2.2.2.1, hB.2.2.2.2.2.2.2.1, hB.2.2.2.2.2.2.2.2.1, fun l hl => ?_⟩, fun l hl => ?_⟩
  · obtain ⟨a, g, v, h1, h2, h3, h4, h5, _, _, _, e1, e2, e3⟩ := key l hl
    rw [e1, e2, e3]; exact ⟨h1, h2, h3, h4, h5⟩
  · obtain ⟨a, g, v, _, _, _, _, _, h6, h7, h8, e1, e2, e3⟩ := key l hl
    rw [e1, e2, e3]; exact ⟨h6, h7, h8⟩
theorem X12_ag_L1 {i : Nat} (hi : i < 2) {l1 : Int32} {J : HJ} {kx : HI → Option (Int32 × HI × HJ)} {Q : Int32 × HI × HJ → Prop} (I0 : HI) (hx : ∀ I, Sm [(m_lampFrom, none), (m_lampTo, none), (m_volts, none)] I0 I → (∀ l, l < 60 → I m_lampFrom l = I0 m_kept (208 * i + 3 * l) ∧ I m_lampTo l = I0 m_kept (208 * i + 3 * l + 1) ∧ I m_volts l = I0 m_kept (208 * i + 3 * l + 2)) → Ok (kx I) Q) : ∀ K k, k ≤ 60 → 60 - k < K → ∀ I, Sm [(m_lampFrom, none), (m_lampTo, none), (m_volts, none)] I0 I → (∀ l, l < k → I m_lampFrom l = I0 m_kept (208 * i + 3 * l) ∧ I m_lampTo l = I0 m_kept (208 * i + 3 * l + 1) ∧ I m_volts l = I0 m_kept (208 * i + 3 * l + 2)) → Ok (F_X12_again_L47 l1 (nI (208 * i)) J kx K (nI k) I) Q := by
  refine up ?_ ?_
  · intro K I hs hv
    rw [F_X12_again_L47]
    exact Ok.t (show (60 : Int32) ≤ nI 60 by decide) (hx I hs hv)
  · intro K k hk ih I hs hv
    rw [F_X12_again_L47]
    have c : ¬ (60 : Int32) ≤ nI k := (by rw [n_le (by omega) (by omega)]; omega : ¬ nI 60 ≤ nI k)
    refine Ok.f c ?_
    simp (disch := omega) only [lit32, n_mul, nI_add, n_bx, n_cl, lb]
    refine ih _ (Sm.mi rfl (Sm.mi rfl (Sm.mi rfl hs))) (fun l hl => ?_)
    rw [ui_c (show m_lampFrom ≠ m_volts by decide), ui_c (show m_lampFrom ≠ m_lampTo by decide), ui_c (show m_lampTo ≠ m_volts by decide), ui_c (show m_kept ≠ m_lampTo by decide), ui_c (show m_kept ≠ m_lampFrom by decide)]
    by_cases e : l = k
    · subst e
      rw [ui_r, ui_r, ui_r]
      exact ⟨hs _ _ rfl, hs _ _ rfl, hs _ _ rfl⟩
    · rw [ui_j e, ui_j e, ui_j e, ui_c (show m_volts ≠ m_lampTo by decide), ui_c (show m_lampTo ≠ m_lampFrom by decide), ui_c (show m_volts ≠ m_lampFrom by decide)]
      exact hv l (by omega)
theorem X12_ag_L2 {i : Nat} (hi : i < 2) {kx : HI → HJ → Option (Int32 × HI × HJ)} {Q : Int32 × HI × HJ → Prop} (I0 : HI) (J0 : HJ) (hx : ∀ I J, Sm [(m_seenHigh, none), (m_seenLow, none)] I0 I → Sm [(m_seenLamps, none)] J0 J → (∀ s, s < 12 → I m_seenHigh s = I0 m_kept (208 * i + 184 + 2 * s) ∧ I m_seenLow s = I0 m_kept (208 * i + 185 + 2 * s) ∧ J m_seenLamps s = J0 m_keptSets (16 * i + 4 + s)) → Ok (kx I J) Q) : ∀ K k, k ≤ 12 → 12 - k < K → ∀ I J, Sm [(m_seenHigh, none), (m_seenLow, none)] I0 I → Sm [(m_seenLamps, none)] J0 J → (∀ s, s < k → I m_seenHigh s = I0 m_kept (208 * i + 184 + 2 * s) ∧ I m_seenLow s = I0 m_kept (208 * i + 185 + 2 * s) ∧ J m_seenLamps s = J0 m_keptSets (16 * i + 4 + s)) → Ok (F_X12_again_L165 (nI i) (nI (208 * i + 180)) kx K (nI k) I J) Q := by
  refine up ?_ ?_
  · intro K I J hs hsj hv
    rw [F_X12_again_L165]
    exact Ok.t (show (12 : Int32) ≤ nI 12 by decide) (hx I J hs hsj hv)
  · intro K k hk ih I J hs hsj hv
    rw [F_X12_again_L165]
    have c : ¬ (12 : Int32) ≤ nI k := (by rw [n_le (by omega) (by omega)]; omega : ¬ nI 12 ≤ nI k)
    refine Ok.f c ?_
    simp (disch := omega) only [lit32, n_mul, nI_add, n_bx, n_cl, lb]
    refine ih _ _ (Sm.mi rfl (Sm.mi rfl hs)) (Sm.mj rfl hsj) (fun s hs' => ?_)
    rw [ui_c (show m_seenHigh ≠ m_seenLow by decide), ui_c (show m_kept ≠ m_seenHigh by decide)]
    by_cases e : s = k
    · subst e
      rw [ui_r, ui_r, uj_r, show 208 * i + 184 + 2 * s = 208 * i + 180 + 4 + 2 * s by omega, show 208 * i + 185 + 2 * s = 208 * i + 180 + 5 + 2 * s by omega]
      exact ⟨hs _ _ rfl, hs _ _ rfl, hsj _ _ rfl⟩
    · rw [ui_j e, ui_j e, uj_j e, ui_c (show m_seenLow ≠ m_seenHigh by decide)]
      exact hv s (by omega)
theorem X12_ag_L3 {i : Nat} (hi : i < 2) {Q : Int32 × HI × HJ → Prop} (I : HI) (J0 : HJ) (hx : ∀ J, Sm [(m_pictures, none)] J0 J → (∀ s, s < 4 → J m_pictures s = J0 m_keptSets (16 * i + s)) → Q (1, I, J)) : ∀ K k, k ≤ 4 → 4 - k < K → ∀ J, Sm [(m_pictures, none)] J0 J → (∀ s, s < k → J m_pictures s = J0 m_keptSets (16 * i + s)) → Ok (F_X12_again_L234 (nI i) I K (nI k) J) Q := by
  refine up ?_ ?_
  · intro K J hs hv
    rw [F_X12_again_L234]
    exact Ok.t (show (4 : Int32) ≤ nI 4 by decide) (Ok.mk (hx J hs hv))
  · intro K k hk ih J hs hv
    rw [F_X12_again_L234]
    have c : ¬ (4 : Int32) ≤ nI k := (by rw [n_le (by omega) (by omega)]; omega : ¬ nI 4 ≤ nI k)
    refine Ok.f c ?_
    simp (disch := omega) only [lit32, n_mul, nI_add, n_bx, n_cl, lb]
    refine ih _ (Sm.mj rfl hs) (fun s hs' => ?_)
    by_cases e : s = k
    · subst e; rw [uj_r]; exact hs _ _ rfl
    · rw [uj_j e]; exact hv s (by omega)
/-- what the reference takes up again -/
def agQ (i : Nat) (I : HI) (J : HJ) (q : Int32 × HI × HJ) : Prop := q.1 = 1 ∧ (∀ l, l < 60 → q.2.1 m_lampFrom l = I m_kept (208 * i + 3 * l) ∧ q.2.1 m_lampTo l = I m_kept (208 * i + 3 * l + 1) ∧ q.2.1 m_volts l = I m_kept (208 * i + 3 * l + 2)) ∧
  q.2.1 m_self f_Model_lamps = I m_kept (208 * i + 180) ∧ q.2.1 m_self f_Model_shownHigh = I m_kept (208 * i + 181) ∧ q.2.1 m_self f_Model_shownLow = I m_kept (208 * i + 182) ∧ q.2.1 m_self f_Model_seenMany = I m_kept (208 * i + 183) ∧
  (∀ s, s < 12 → q.2.1 m_seenHigh s = I m_kept (208 * i + 184 + 2 * s) ∧ q.2.1 m_seenLow s = I m_kept (208 * i + 185 + 2 * s) ∧ q.2.2 m_seenLamps s = J m_keptSets (16 * i + 4 + s)) ∧ (∀ s, s < 4 → q.2.2 m_pictures s = J m_keptSets (16 * i + s)) ∧
  q.2.1 m_self f_Model_wide = I m_self f_Model_wide ∧ (∀ j, q.2.1 m_sets j = I m_sets j) ∧ (∀ j, q.2.1 m_ohm j = I m_ohm j)
theorem X12_again {i : Nat} (hi : i < 2) {nb : Nat} (I : HI) (J : HJ) (hk : I m_isKept i = nI 1) (hb : I m_keptBoards i = nI nb) (hb2 : I m_self f_Model_boards = nI nb) : Ok (F_X12_again (nI i) I J) (agQ i I J) := by
  unfold F_X12_again
  have r0 : F_X12_in (Int32.toInt64 (nI i)) (0 : Int64) (1 : Int64) = some (nI 1) := (in_r (nI i) 0 1 (by omega) (by omega)).1 (by rw [n_int (by omega)]; omega)
  obtain ⟨I1, hI1⟩ : ∃ I1, I1 = ui I m_self f_Model_thrown 0 := ⟨_, rfl⟩
  have s1 : Sm [(m_self, some f_Model_thrown)] I I1 := by rw [hI1]; exact th_s I 0
  refine Ok.lbv (Ok.cpe r0 (Ok.f (by decide) (Ok.bxe (by omega) (by omega) ?_)))
  rw [← hI1, n_cl (by omega)]
  refine Ok.f (by rw [s1 _ _ rfl, hk]; decide) (Ok.bxe (by omega) (by omega) (Ok.t (by rw [s1 _ _ rfl, s1 _ _ rfl, hb, hb2]) (Ok.lbv ?_)))
  rw [show (208 : Int32) * nI i = nI (208 * i) from (n_mul (a := 208) (b := i))]
  refine X12_ag_L1 hi I1 (fun I2 s2 v2 => ?_) bgf 0 (by omega) (by unfold bgf; omega) I1 Sm.rf (fun l hl => by omega)
  simp (disch := omega) only [lit32, nI_add, n_bx, n_cl, lb]
  obtain ⟨I3, hI3⟩ : ∃ I3, I3 = ui I2 m_self f_Model_lamps (I2 m_kept (208 * i + 180)) := ⟨_, rfl⟩
  obtain ⟨I4, hI4⟩ : ∃ I4, I4 = ui I3 m_self f_Model_shownHigh (I3 m_kept (208 * i + 180 + 1)) := ⟨_, rfl⟩
  obtain ⟨I5, hI5⟩ : ∃ I5, I5 = ui I4 m_self f_Model_shownLow (I4 m_kept (208 * i + 180 + 2)) := ⟨_, rfl⟩
  obtain ⟨I6, hI6⟩ : ∃ I6, I6 = ui I5 m_self f_Model_seenMany (I5 m_kept (208 * i + 180 + 3)) := ⟨_, rfl⟩
  rw [← hI3, ← hI4, ← hI5, ← hI6]
  have s6 : Sm [(m_self, some f_Model_lamps), (m_self, some f_Model_shownHigh), (m_self, some f_Model_shownLow), (m_self, some f_Model_seenMany)] I2 I6 := by rw [hI6, hI5, hI4, hI3]; exact Sm.mi rfl (Sm.mi rfl (Sm.mi rfl (Sm.mi rfl Sm.rf)))
  have hkp : ∀ j, I2 m_kept j = I m_kept j := fun j => by rw [s2 _ _ rfl]; exact s1 _ _ rfl
  have e0 : I6 m_self f_Model_lamps = I m_kept (208 * i + 180) := by rw [hI6, ui_j (by decide), hI5, ui_j (by decide), hI4, ui_j (by decide), hI3, ui_r]; exact hkp _
  have e1 : I6 m_self f_Model_shownHigh = I m_kept (208 * i + 181) := by rw [hI6, ui_j (by decide), hI5, ui_j (by decide), hI4, ui_r, hI3, ui_c (by decide)]; exact hkp _
  have e2 : I6 m_self f_Model_shownLow = I m_kept (208 * i + 182) := by rw [hI6, ui_j (by decide), hI5, ui_r, hI4, ui_c (by decide), hI3, ui_c (by decide)]; exact hkp _
  have e3 : I6 m_self f_Model_seenMany = I m_kept (208 * i + 183) := by rw [hI6, ui_r, hI5, ui_c (by decide), hI4, ui_c (by decide), hI3, ui_c (by decide)]; exact hkp _
  refine X12_ag_L2 hi I6 J (fun I7 J7 s7 t7 v7 => ?_) bgf 0 (by omega) (by unfold bgf; omega) I6 J Sm.rf Sm.rf (fun l hl => by omega)
  refine X12_ag_L3 hi I7 J7 (fun J8 t8 v8 => ?_) bgf 0 (by omega) (by unfold bgf; omega) J7 Sm.rf (fun l hl => by omega)
  refine ⟨rfl, fun l hl => ?_, ?_, ?_, ?_, ?_, fun s hs => ?_, fun s hs => ?_, ?_, fun j => ?_, fun j => ?_⟩
  all_goals dsimp only
  · obtain ⟨u1, u2, u3⟩ := v2 l hl
    rw [s7 m_lampFrom _ rfl, s7 m_lampTo _ rfl, s7 m_volts _ rfl, s6 m_lampFrom _ rfl, s6 m_lampTo _ rfl, s6 m_volts _ rfl, u1, u2, u3]
    exact ⟨s1 _ _ rfl, s1 _ _ rfl, s1 _ _ rfl⟩
  · rw [s7 _ _ rfl]; exact e0
  · rw [s7 _ _ rfl]; exact e1
  · rw [s7 _ _ rfl]; exact e2
  · rw [s7 _ _ rfl]; exact e3
  · obtain ⟨u1, u2, u3⟩ := v7 s hs
    rw [u1, u2, t8 _ _ rfl, u3, s6 m_kept _ rfl, s6 m_kept _ rfl]
    exact ⟨hkp _, hkp _, rfl⟩
  · rw [v8 s hs]; exact t7 _ _ rfl
  · rw [s7 _ _ rfl, s6 _ _ rfl, s2 _ _ rfl]; exact s1 _ _ rfl
  · rw [s7 _ _ rfl, s6 _ _ rfl, s2 _ _ rfl]; exact s1 _ _ rfl
  · rw [s7 _ _ rfl, s6 _ _ rfl, s2 _ _ rfl]; exact s1 _ _ rfl

theorem X2_give0 {B : Bd} (h60 : bL B ≤ 60) (hb : ∀ l, l < bL B → bA B l < 10 ∧ bG B l < 10) (I : HI) (J : HJ) (hl : I x_kept_0 f_Kept_lamps = nI (bL B)) (he : ∀ l, l < bL B → I x_kept_0_from l = nI (bA B l) ∧ I x_kept_0_goal l = nI (bG B l)) : Ok (F_X2_give_63_1_25 I J) (fun q => q.2.1 x_board f_Board_lamps = I x_kept_0 f_Kept_lamps ∧ (∀ l, l < 64 → q.2.1 x_board_from l = I x_kept_0_from l ∧ q.2.1 x_board_goal l = I x_kept_0_goal l ∧ q.2.1 x_board_volts l = I x_kept_0_volts l) ∧ wrQ B (bL B) q.2.2 ∧ q.2.1 x_notes f_Notes_high = I x_kept_0_notes f_Notes_high ∧ q.2.1 x_notes f_Notes_low = I x_kept_0_notes f_Notes_low ∧ q.2.1 x_notes f_Notes_seenSize = I x_kept_0_notes f_Notes_seenSize ∧ (∀ i, i < 4 → q.2.2 x_notes_pictures i = J x_kept_0_notes_pictures i) ∧ (∀ s, s < 12 → q.2.1 x_notes_seenHigh s = I x_kept_0_notes_seenHigh s ∧ q.2.1 x_notes_seenLow s = I x_kept_0_notes_seenLow s ∧ q.2.2 x_notes_seenLamps s = J x_kept_0_notes_seenLamps s) ∧ (∀ j, j ≠ f_Board_lamps → q.2.1 x_board j = I x_board j) ∧ (∀ j, q.2.1 x_board_ohms j = I x_board_ohms j)) := by
  unfold F_X2_give_63_1_25
  refine Ok.lbv (Ok.f (by decide) (Ok.lbv (Ok.f (by decide) (Ok.lbv (Ok.f (by decide) (Ok.lbv ?_))))))
  obtain ⟨I1, hI1⟩ : ∃ I1, I1 = ui I x_board f_Board_lamps (I x_kept_0 f_Kept_lamps) := ⟨_, rfl⟩
  rw [← hI1]
  obtain ⟨I2, hI2⟩ : ∃ I2, I2 = uf I1 x_board_from (va_cpy (I1 x_kept_0_from) (I1 x_board_from) (Int32.toNatClampNeg (0 : Int32)) (Int32.toNatClampNeg (0 : Int32)) (Int32.toNatClampNeg (64 : Int32))) := ⟨_, rfl⟩
  rw [← hI2]
  obtain ⟨I3, hI3⟩ : ∃ I3, I3 = uf I2 x_board_goal (va_cpy (I2 x_kept_0_goal) (I2 x_board_goal) (Int32.toNatClampNeg (0 : Int32)) (Int32.toNatClampNeg (0 : Int32)) (Int32.toNatClampNeg (64 : Int32))) := ⟨_, rfl⟩
  rw [← hI3]
  obtain ⟨I4, hI4⟩ : ∃ I4, I4 = uf I3 x_board_volts (va_cpy (I3 x_kept_0_volts) (I3 x_board_volts) (Int32.toNatClampNeg (0 : Int32)) (Int32.toNatClampNeg (0 : Int32)) (Int32.toNatClampNeg (64 : Int32))) := ⟨_, rfl⟩
  rw [← hI4]
  have f0 : I4 x_board f_Board_lamps = I x_kept_0 f_Kept_lamps := by rw [hI4, uf_c (by decide), hI3, uf_c (by decide), hI2, uf_c (by decide), hI1, ui_r]
  have f1 : ∀ l, l < 64 → I4 x_board_from l = I x_kept_0_from l ∧ I4 x_board_goal l = I x_kept_0_goal l ∧ I4 x_board_volts l = I x_kept_0_volts l := by
    intro l hl
    refine ⟨?_, ?_, ?_⟩
    · rw [hI4, uf_c (by decide), hI3, uf_c (by decide), hI2, uf_r, k0c, k64c, cpy_at hl, hI1, ui_c (by decide)]
    · rw [hI4, uf_c (by decide), hI3, uf_r, k0c, k64c, cpy_at hl, hI2, uf_c (by decide), hI1, ui_c (by decide)]
    · rw [hI4, uf_r, k0c, k64c, cpy_at hl, hI3, uf_c (by decide), hI2, uf_c (by decide), hI1, ui_c (by decide)]
  have f2 : ∀ c, c ≠ x_board → c ≠ x_board_from → c ≠ x_board_goal → c ≠ x_board_volts → I4 c = I c := by
    intro c h1 h2 h3 h4
    rw [hI4, uf_c h4, hI3, uf_c h3, hI2, uf_c h2, hI1, ui_c h1]
  have f3 : ∀ j, j ≠ f_Board_lamps → I4 x_board j = I x_board j := by
    intro j hj
    rw [hI4, uf_c (by decide), hI3, uf_c (by decide), hI2, uf_c (by decide), hI1, ui_j hj]
  refine Ok.call ((X0_rewire h60 hb I4 J (by rw [f0]; exact hl) (fun l hl' => ⟨by rw [(f1 l (by omega)).1]; exact (he l hl').1, by rw [(f1 l (by omega)).2.1]; exact (he l hl').2⟩)).fo (fr_X0_rewire I4 J)) (fun r I5 J5 _ hP => ?_)
  obtain ⟨⟨w1, w2⟩, _, w4⟩ := hP
  simp only at w1 w2 w4
  subst w1
  refine Ok.call ((X3_pc0 I5 J5).fo (fr_X3_copyFrom_25_67 I5 J5)) (fun r I6 J6 _ hP => ?_)
  obtain ⟨⟨q1, q2, q3, q4, q5⟩, s1, s2⟩ := hP
  simp only at q1 q2 q3 q4 q5 s1 s2
  refine Ok.mk ⟨?_, fun l hl => ?_, fun w hw l => ?_, ?_, ?_, ?_, fun i hi => ?_, fun s hs => ?_, fun j hj => ?_, fun j => ?_⟩
  all_goals dsimp only
  · rw [s1 _ _ rfl]; exact f0
  · rw [s1 x_board_from _ rfl, s1 x_board_goal _ rfl, s1 x_board_volts _ rfl]; exact f1 l hl
  · rw [s2 x_board_out _ rfl, s2 x_board_into _ rfl]; exact w2 w hw l
  · rw [q1, f2 _ (by decide) (by decide) (by decide) (by decide)]
  · rw [q2, f2 _ (by decide) (by decide) (by decide) (by decide)]
  · rw [q3, f2 _ (by decide) (by decide) (by decide) (by decide)]
  · rw [q4 i hi]; exact w4 _ _ rfl
  · obtain ⟨u1, u2, u3⟩ := q5 s hs
    rw [u1, u2, u3, f2 x_kept_0_notes_seenHigh (by decide) (by decide) (by decide) (by decide), f2 x_kept_0_notes_seenLow (by decide) (by decide) (by decide) (by decide)]
    exact ⟨rfl, rfl, w4 _ _ rfl⟩
  · rw [s1 _ _ rfl]; exact f3 j hj
  · rw [s1 _ _ rfl, f2 _ (by decide) (by decide) (by decide) (by decide)]

theorem X2_give1 {B : Bd} (h60 : bL B ≤ 60) (hb : ∀ l, l < bL B → bA B l < 10 ∧ bG B l < 10) (I : HI) (J : HJ) (hl : I x_kept_1 f_Kept_lamps = nI (bL B)) (he : ∀ l, l < bL B → I x_kept_1_from l = nI (bA B l) ∧ I x_kept_1_goal l = nI (bG B l)) : Ok (F_X2_give_72_1_25 I J) (fun q => q.2.1 x_board f_Board_lamps = I x_kept_1 f_Kept_lamps ∧ (∀ l, l < 64 → q.2.1 x_board_from l = I x_kept_1_from l ∧ q.2.1 x_board_goal l = I x_kept_1_goal l ∧ q.2.1 x_board_volts l = I x_kept_1_volts l) ∧ wrQ B (bL B) q.2.2 ∧ q.2.1 x_notes f_Notes_high = I x_kept_1_notes f_Notes_high ∧ q.2.1 x_notes f_Notes_low = I x_kept_1_notes f_Notes_low ∧ q.2.1 x_notes f_Notes_seenSize = I x_kept_1_notes f_Notes_seenSize ∧ (∀ i, i < 4 → q.2.2 x_notes_pictures i = J x_kept_1_notes_pictures i) ∧ (∀ s, s < 12 → q.2.1 x_notes_seenHigh s = I x_kept_1_notes_seenHigh s ∧ q.2.1 x_notes_seenLow s = I x_kept_1_notes_seenLow s ∧ q.2.2 x_notes_seenLamps s = J x_kept_1_notes_seenLamps s) ∧ (∀ j, j ≠ f_Board_lamps → q.2.1 x_board j = I x_board j) ∧ (∀ j, q.2.1 x_board_ohms j = I x_board_ohms j)) := by
  unfold F_X2_give_72_1_25
  refine Ok.lbv (Ok.f (by decide) (Ok.lbv (Ok.f (by decide) (Ok.lbv (Ok.f (by decide) (Ok.lbv ?_))))))
  obtain ⟨I1, hI1⟩ : ∃ I1, I1 = ui I x_board f_Board_lamps (I x_kept_1 f_Kept_lamps) := ⟨_, rfl⟩
  rw [← hI1]
  obtain ⟨I2, hI2⟩ : ∃ I2, I2 = uf I1 x_board_from (va_cpy (I1 x_kept_1_from) (I1 x_board_from) (Int32.toNatClampNeg (0 : Int32)) (Int32.toNatClampNeg (0 : Int32)) (Int32.toNatClampNeg (64 : Int32))) := ⟨_, rfl⟩
  rw [← hI2]
  obtain ⟨I3, hI3⟩ : ∃ I3, I3 = uf I2 x_board_goal (va_cpy (I2 x_kept_1_goal) (I2 x_board_goal) (Int32.toNatClampNeg (0 : Int32)) (Int32.toNatClampNeg (0 : Int32)) (Int32.toNatClampNeg (64 : Int32))) := ⟨_, rfl⟩
  rw [← hI3]
  obtain ⟨I4, hI4⟩ : ∃ I4, I4 = uf I3 x_board_volts (va_cpy (I3 x_kept_1_volts) (I3 x_board_volts) (Int32.toNatClampNeg (0 : Int32)) (Int32.toNatClampNeg (0 : Int32)) (Int32.toNatClampNeg (64 : Int32))) := ⟨_, rfl⟩
  rw [← hI4]
  have f0 : I4 x_board f_Board_lamps = I x_kept_1 f_Kept_lamps := by rw [hI4, uf_c (by decide), hI3, uf_c (by decide), hI2, uf_c (by decide), hI1, ui_r]
  have f1 : ∀ l, l < 64 → I4 x_board_from l = I x_kept_1_from l ∧ I4 x_board_goal l = I x_kept_1_goal l ∧ I4 x_board_volts l = I x_kept_1_volts l := by
    intro l hl
    refine ⟨?_, ?_, ?_⟩
    · rw [hI4, uf_c (by decide), hI3, uf_c (by decide), hI2, uf_r, k0c, k64c, cpy_at hl, hI1, ui_c (by decide)]
    · rw [hI4, uf_c (by decide), hI3, uf_r, k0c, k64c, cpy_at hl, hI2, uf_c (by decide), hI1, ui_c (by decide)]
    · rw [hI4, uf_r, k0c, k64c, cpy_at hl, hI3, uf_c (by decide), hI2, uf_c (by decide), hI1, ui_c (by decide)]
  have f2 : ∀ c, c ≠ x_board → c ≠ x_board_from → c ≠ x_board_goal → c ≠ x_board_volts → I4 c = I c := by
    intro c h1 h2 h3 h4
    rw [hI4, uf_c h4, hI3, uf_c h3, hI2, uf_c h2, hI1, ui_c h1]
  have f3 : ∀ j, j ≠ f_Board_lamps → I4 x_board j = I x_board j := by
    intro j hj
    rw [hI4, uf_c (by decide), hI3, uf_c (by decide), hI2, uf_c (by decide), hI1, ui_j hj]
  refine Ok.call ((X0_rewire h60 hb I4 J (by rw [f0]; exact hl) (fun l hl' => ⟨by rw [(f1 l (by omega)).1]; exact (he l hl').1, by rw [(f1 l (by omega)).2.1]; exact (he l hl').2⟩)).fo (fr_X0_rewire I4 J)) (fun r I5 J5 _ hP => ?_)
  obtain ⟨⟨w1, w2⟩, _, w4⟩ := hP
  simp only at w1 w2 w4
  subst w1
  refine Ok.call ((X3_pc1 I5 J5).fo (fr_X3_copyFrom_25_76 I5 J5)) (fun r I6 J6 _ hP => ?_)
  obtain ⟨⟨q1, q2, q3, q4, q5⟩, s1, s2⟩ := hP
  simp only at q1 q2 q3 q4 q5 s1 s2
  refine Ok.mk ⟨?_, fun l hl => ?_, fun w hw l => ?_, ?_, ?_, ?_, fun i hi => ?_, fun s hs => ?_, fun j hj => ?_, fun j => ?_⟩
  all_goals dsimp only
  · rw [s1 _ _ rfl]; exact f0
  · rw [s1 x_board_from _ rfl, s1 x_board_goal _ rfl, s1 x_board_volts _ rfl]; exact f1 l hl
  · rw [s2 x_board_out _ rfl, s2 x_board_into _ rfl]; exact w2 w hw l
  · rw [q1, f2 _ (by decide) (by decide) (by decide) (by decide)]
  · rw [q2, f2 _ (by decide) (by decide) (by decide) (by decide)]
  · rw [q3, f2 _ (by decide) (by decide) (by decide) (by decide)]
  · rw [q4 i hi]; exact w4 _ _ rfl
  · obtain ⟨u1, u2, u3⟩ := q5 s hs
    rw [u1, u2, u3, f2 x_kept_1_notes_seenHigh (by decide) (by decide) (by decide) (by decide), f2 x_kept_1_notes_seenLow (by decide) (by decide) (by decide) (by decide)]
    exact ⟨rfl, rfl, w4 _ _ rfl⟩
  · rw [s1 _ _ rfl]; exact f3 j hj
  · rw [s1 _ _ rfl, f2 _ (by decide) (by decide) (by decide) (by decide)]

/-! LAYER 2: keep, the reference -/
theorem X12_keep_L1 {i : Nat} (hi : i < 2) {l1 : Int32} {J : HJ} {kx : HI → Option (Int32 × HI × HJ)} {Q : Int32 × HI × HJ → Prop} (I0 : HI) (hx : ∀ I, Sm [(m_kept, none)] I0 I → (∀ l, l < 60 → I m_kept (208 * i + 3 * l) = I0 m_lampFrom l ∧ I m_kept (208 * i + 3 * l + 1) = I0 m_lampTo l ∧ I m_kept (208 * i + 3 * l + 2) = I0 m_volts l) → (∀ j, j < 208 * i ∨ 208 * i + 180 ≤ j → I m_kept j = I0 m_kept j) → Ok (kx I) Q) : ∀ K k, k ≤ 60 → 60 - k < K → ∀ I, Sm [(m_kept, none)] I0 I → (∀ l, l < k → I m_kept (208 * i + 3 * l) = I0 m_lampFrom l ∧ I m_kept (208 * i + 3 * l + 1) = I0 m_lampTo l ∧ I m_kept (208 * i + 3 * l + 2) = I0 m_volts l) → (∀ j, j < 208 * i ∨ 208 * i + 3 * k ≤ j → I m_kept j = I0 m_kept j) → Ok (F_X12_keep_L42 l1 (nI (208 * i)) J kx K (nI k) I) Q := by
  refine up ?_ ?_
  · intro K I hs hv ho
    rw [F_X12_keep_L42]
    exact Ok.t (show (60 : Int32) ≤ nI 60 by decide) (hx I hs hv (fun j hj => ho j (by omega)))
  · intro K k hk ih I hs hv ho
    rw [F_X12_keep_L42]
    have c : ¬ (60 : Int32) ≤ nI k := (by rw [n_le (by omega) (by omega)]; omega : ¬ nI 60 ≤ nI k)
    refine Ok.f c ?_
    simp (disch := omega) only [lit32, n_mul, nI_add, n_bx, n_cl, lb]
    refine ih _ (Sm.mi rfl (Sm.mi rfl (Sm.mi rfl hs))) (fun l hl => ?_) (fun j hj => ?_)
    · by_cases e : l = k
      · subst e
        refine ⟨?_, ?_, ?_⟩
        · rw [ui_s, if_neg (by omega), ui_s, if_neg (by omega), ui_r]; exact hs _ _ rfl
        · rw [ui_s, if_neg (by omega), ui_r, ui_c (by decide)]; exact hs _ _ rfl
        · rw [ui_r, ui_c (by decide), ui_c (by decide)]; exact hs _ _ rfl
      · obtain ⟨v1, v2, v3⟩ := hv l (by omega)
        refine ⟨?_, ?_, ?_⟩ <;> rw [ui_s, if_neg (by omega), ui_s, if_neg (by omega), ui_s, if_neg (by omega)]
        · exact v1
        · exact v2
        · exact v3
    · rw [ui_s, if_neg (by omega), ui_s, if_neg (by omega), ui_s, if_neg (by omega)]
      exact ho j (by omega)
theorem X12_keep_L2 {i : Nat} (hi : i < 2) {kx : HI → HJ → Option (Int32 × HI × HJ)} {Q : Int32 × HI × HJ → Prop} (I0 : HI) (J0 : HJ) (hx : ∀ I J, Sm [(m_kept, none)] I0 I → Sm [(m_keptSets, none)] J0 J → (∀ s, s < 12 → I m_kept (208 * i + 184 + 2 * s) = I0 m_seenHigh s ∧ I m_kept (208 * i + 185 + 2 * s) = I0 m_seenLow s ∧ J m_keptSets (16 * i + 4 + s) = J0 m_seenLamps s) → (∀ j, j < 208 * i + 184 ∨ 208 * i + 208 ≤ j → I m_kept j = I0 m_kept j) → (∀ j, j < 16 * i + 4 ∨ 16 * i + 16 ≤ j → J m_keptSets j = J0 m_keptSets j) → Ok (kx I J) Q) : ∀ K k, k ≤ 12 → 12 - k < K → ∀ I J, Sm [(m_kept, none)] I0 I → Sm [(m_keptSets, none)] J0 J → (∀ s, s < k → I m_kept (208 * i + 184 + 2 * s) = I0 m_seenHigh s ∧ I m_kept (208 * i + 185 + 2 * s) = I0 m_seenLow s ∧ J m_keptSets (16 * i + 4 + s) = J0 m_seenLamps s) → (∀ j, j < 208 * i + 184 ∨ 208 * i + 184 + 2 * k ≤ j → I m_kept j = I0 m_kept j) → (∀ j, j < 16 * i + 4 ∨ 16 * i + 4 + k ≤ j → J m_keptSets j = J0 m_keptSets j) → Ok (F_X12_keep_L160 (nI i) (nI (208 * i + 180)) kx K (nI k) I J) Q := by
  refine up ?_ ?_
  · intro K I J hs hsj hv ho hoj
    rw [F_X12_keep_L160]
    exact Ok.t (show (12 : Int32) ≤ nI 12 by decide) (hx I J hs hsj hv (fun j hj => ho j (by omega)) (fun j hj => hoj j (by omega)))
  · intro K k hk ih I J hs hsj hv ho hoj
    rw [F_X12_keep_L160]
    have c : ¬ (12 : Int32) ≤ nI k := (by rw [n_le (by omega) (by omega)]; omega : ¬ nI 12 ≤ nI k)
    refine Ok.f c ?_
    simp (disch := omega) only [lit32, n_mul, nI_add, n_bx, n_cl, lb]
    refine ih _ _ (Sm.mi rfl (Sm.mi rfl hs)) (Sm.mj rfl hsj) (fun s hs' => ?_) (fun j hj => ?_) (fun j hj => ?_)
    · by_cases e : s = k
      · subst e
        refine ⟨?_, ?_, ?_⟩
        · rw [ui_s, if_neg (by omega), ui_s, if_pos (by omega)]; exact hs _ _ rfl
        · rw [ui_s, if_pos (by omega), ui_c (by decide)]; exact hs _ _ rfl
        · rw [uj_s, if_pos (by omega)]; exact hsj _ _ rfl
      · obtain ⟨v1, v2, v3⟩ := hv s (by omega)
        refine ⟨?_, ?_, ?_⟩
        · rw [ui_s, if_neg (by omega), ui_s, if_neg (by omega)]; exact v1
        · rw [ui_s, if_neg (by omega), ui_s, if_neg (by omega)]; exact v2
        · rw [uj_s, if_neg (by omega)]; exact v3
    · rw [ui_s, if_neg (by omega), ui_s, if_neg (by omega)]
      exact ho j (by omega)
    · rw [uj_s, if_neg (by omega)]
      exact hoj j (by omega)
theorem X12_keep_L3 {i : Nat} (hi : i < 2) {Q : Int32 × HI × HJ → Prop} (I : HI) (J0 : HJ) (hx : ∀ J, Sm [(m_keptSets, none)] J0 J → (∀ s, s < 4 → J m_keptSets (16 * i + s) = J0 m_pictures s) → (∀ j, j < 16 * i ∨ 16 * i + 4 ≤ j → J m_keptSets j = J0 m_keptSets j) → Q (1, I, J)) : ∀ K k, k ≤ 4 → 4 - k < K → ∀ J, Sm [(m_keptSets, none)] J0 J → (∀ s, s < k → J m_keptSets (16 * i + s) = J0 m_pictures s) → (∀ j, j < 16 * i ∨ 16 * i + k ≤ j → J m_keptSets j = J0 m_keptSets j) → Ok (F_X12_keep_L229 (nI i) I K (nI k) J) Q := by
  refine up ?_ ?_
  · intro K J hs hv ho
    rw [F_X12_keep_L229]
    exact Ok.t (show (4 : Int32) ≤ nI 4 by decide) (Ok.mk (hx J hs hv ho))
  · intro K k hk ih J hs hv ho
    rw [F_X12_keep_L229]
    have c : ¬ (4 : Int32) ≤ nI k := (by rw [n_le (by omega) (by omega)]; omega : ¬ nI 4 ≤ nI k)
    refine Ok.f c ?_
    simp (disch := omega) only [lit32, n_mul, nI_add, n_bx, n_cl, lb]
    refine ih _ (Sm.mj rfl hs) (fun s hs' => ?_) (fun j hj => ?_)
    · by_cases e : s = k
      · subst e; rw [uj_r]; exact hs _ _ rfl
      · rw [uj_s, if_neg (by omega)]; exact hv s (by omega)
    · rw [uj_s, if_neg (by omega)]; exact ho j (by omega)
/-- what the reference keeps -/
def mkQ (i : Nat) (I : HI) (J : HJ) (q : Int32 × HI × HJ) : Prop := q.1 = 1 ∧ q.2.1 m_isKept i = nI 1 ∧ q.2.1 m_keptBoards i = I m_self f_Model_boards ∧ (∀ l, l < 60 → q.2.1 m_kept (208 * i + 3 * l) = I m_lampFrom l ∧ q.2.1 m_kept (208 * i + 3 * l + 1) = I m_lampTo l ∧ q.2.1 m_kept (208 * i + 3 * l + 2) = I m_volts l) ∧
  q.2.1 m_kept (208 * i + 180) = I m_self f_Model_lamps ∧ q.2.1 m_kept (208 * i + 181) = I m_self f_Model_shownHigh ∧ q.2.1 m_kept (208 * i + 182) = I m_self f_Model_shownLow ∧ q.2.1 m_kept (208 * i + 183) = I m_self f_Model_seenMany ∧
  (∀ s, s < 12 → q.2.1 m_kept (208 * i + 184 + 2 * s) = I m_seenHigh s ∧ q.2.1 m_kept (208 * i + 185 + 2 * s) = I m_seenLow s ∧ q.2.2 m_keptSets (16 * i + 4 + s) = J m_seenLamps s) ∧ (∀ s, s < 4 → q.2.2 m_keptSets (16 * i + s) = J m_pictures s) ∧
  (∀ k, k ≠ i → q.2.1 m_isKept k = I m_isKept k ∧ q.2.1 m_keptBoards k = I m_keptBoards k) ∧ (∀ j, j < 208 * i ∨ 208 * i + 208 ≤ j → q.2.1 m_kept j = I m_kept j) ∧ (∀ j, j < 16 * i ∨ 16 * i + 16 ≤ j → q.2.2 m_keptSets j = J m_keptSets j)
theorem X12_keep {i : Nat} (hi : i < 2) (I : HI) (J : HJ) : Ok (F_X12_keep (nI i) I J) (mkQ i I J) := by
  unfold F_X12_keep
  have r0 : F_X12_in (Int32.toInt64 (nI i)) (0 : Int64) (1 : Int64) = some (nI 1) := (in_r (nI i) 0 1 (by omega) (by omega)).1 (by rw [n_int (by omega)]; omega)
  refine Ok.lbv (Ok.cpe r0 (Ok.f (by decide) (Ok.bxe (by omega) (by omega) (Ok.lbv (Ok.bxe (by omega) (by omega) (Ok.lbv (Ok.lbv ?_)))))))
  rw [n_cl (by omega), ui_c (show m_self ≠ m_isKept by decide), ui_j (show f_Model_boards ≠ f_Model_thrown by decide), show vp_nar .boolean (1 : Int32) = nI 1 from rfl, show (208 : Int32) * nI i = nI (208 * i) from (n_mul (a := 208) (b := i))]
  obtain ⟨I1, hI1⟩ : ∃ I1, I1 = ui (ui (ui I m_self f_Model_thrown 0) m_isKept i (nI 1)) m_keptBoards i (I m_self f_Model_boards) := ⟨_, rfl⟩
  rw [← hI1]
  have s1 : Sm [(m_self, some f_Model_thrown), (m_isKept, none), (m_keptBoards, none)] I I1 := by rw [hI1]; exact Sm.mi rfl (Sm.mi rfl (Sm.mi rfl Sm.rf))
  refine X12_keep_L1 hi I1 (fun I2 s2 v2 o2 => ?_) bgf 0 (by omega) (by unfold bgf; omega) I1 Sm.rf (fun l hl => by omega) (fun j hj => rfl)
  simp (disch := omega) only [lit32, nI_add, n_bx, n_cl, lb]
  obtain ⟨I3, hI3⟩ : ∃ I3, I3 = ui (ui (ui (ui I2 m_kept (208 * i + 180) (I2 m_self f_Model_lamps)) m_kept (208 * i + 180 + 1) (ui I2 m_kept (208 * i + 180) (I2 m_self f_Model_lamps) m_self f_Model_shownHigh)) m_kept (208 * i + 180 + 2) (ui (ui I2 m_kept (208 * i + 180) (I2 m_self f_Model_lamps)) m_kept (208 * i + 180 + 1) (ui I2 m_kept (208 * i + 180) (I2 m_self f_Model_lamps) m_self f_Model_shownHigh) m_self f_Model_shownLow)) m_kept (208 * i + 180 + 3) (ui (ui (ui I2 m_kept (208 * i + 180) (I2 m_self f_Model_lamps)) m_kept (208 * i + 180 + 1) (ui I2 m_kept (208 * i + 180) (I2 m_self f_Model_lamps) m_self f_Model_shownHigh)) m_kept (208 * i + 180 + 2) (ui (ui I2 m_kept (208 * i + 180) (I2 m_self f_Model_lamps)) m_kept (208 * i + 180 + 1) (ui I2 m_kept (208 * i + 180) (I2 m_self f_Model_lamps) m_self f_Model_shownHigh) m_self f_Model_shownLow) m_self f_Model_seenMany) := ⟨_, rfl⟩
  rw [← hI3]
  have s3 : Sm [(m_kept, none)] I2 I3 := by rw [hI3]; exact Sm.mi rfl (Sm.mi rfl (Sm.mi rfl (Sm.mi rfl Sm.rf)))
  have e0 : I3 m_kept (208 * i + 180) = I m_self f_Model_lamps := by
    rw [hI3, ui_s, if_neg (by omega), ui_s, if_neg (by omega), ui_s, if_neg (by omega), ui_r, s2 _ _ rfl]; exact s1 _ _ rfl
  have e1 : I3 m_kept (208 * i + 181) = I m_self f_Model_shownHigh := by
    rw [hI3, ui_s, if_neg (by omega), ui_s, if_neg (by omega), ui_s, if_pos (by omega), ui_c (by decide), s2 _ _ rfl]; exact s1 _ _ rfl
  have e2 : I3 m_kept (208 * i + 182) = I m_self f_Model_shownLow := by
    rw [hI3, ui_s, if_neg (by omega), ui_s, if_pos (by omega), ui_c (by decide), ui_c (by decide), s2 _ _ rfl]; exact s1 _ _ rfl
  have e3 : I3 m_kept (208 * i + 183) = I m_self f_Model_seenMany := by
    rw [hI3, ui_s, if_pos (by omega), ui_c (by decide), ui_c (by decide), ui_c (by decide), s2 _ _ rfl]; exact s1 _ _ rfl
  have o3 : ∀ j, j < 208 * i + 180 ∨ 208 * i + 184 ≤ j → I3 m_kept j = I2 m_kept j := fun j hj => by
    rw [hI3, ui_s, if_neg (by omega), ui_s, if_neg (by omega), ui_s, if_neg (by omega), ui_s, if_neg (by omega)]
  refine X12_keep_L2 hi I3 J (fun I4 J4 s4 t4 v4 o4 p4 => ?_) bgf 0 (by omega) (by unfold bgf; omega) I3 J Sm.rf Sm.rf (fun l hl => by omega) (fun j hj => rfl) (fun j hj => rfl)
  refine X12_keep_L3 hi I4 J4 (fun J5 t5 v5 o5 => ?_) bgf 0 (by omega) (by unfold bgf; omega) J4 Sm.rf (fun l hl => by omega) (fun j hj => rfl)
  have g1 : ∀ {c : Nat} {j : Nat}, c ≠ m_kept → I4 c j = I1 c j := fun {c j} hc => by
    have hw : inW [(m_kept, none)] c j = false := by simp [inW]; exact fun h => hc h.symm
    rw [s4 c j hw, s3 c j hw, s2 c j hw]
  refine ⟨rfl, ?_, ?_, fun l hl => ?_, ?_, ?_, ?_, ?_, fun s hs => ?_, fun s hs => ?_, fun k hk => ?_, fun j hj => ?_, fun j hj => ?_⟩
  all_goals dsimp only
  · rw [g1 (by decide), hI1, ui_c (by decide), ui_r]
  · rw [g1 (by decide), hI1, ui_r]
  · obtain ⟨u1, u2, u3⟩ := v2 l hl
    rw [o4 _ (by omega), o4 _ (by omega), o4 _ (by omega), o3 _ (by omega), o3 _ (by omega), o3 _ (by omega), u1, u2, u3]
    exact ⟨s1 _ _ rfl, s1 _ _ rfl, s1 _ _ rfl⟩
  · rw [o4 _ (by omega)]; exact e0
  · rw [o4 _ (by omega)]; exact e1
  · rw [o4 _ (by omega)]; exact e2
  · rw [o4 _ (by omega)]; exact e3
  · obtain ⟨u1, u2, u3⟩ := v4 s hs
    rw [u1, u2, o5 _ (by omega), u3, s3 m_seenHigh _ rfl, s3 m_seenLow _ rfl, s2 m_seenHigh _ rfl, s2 m_seenLow _ rfl]
    exact ⟨s1 _ _ rfl, s1 _ _ rfl, rfl⟩
  · rw [v5 s hs, t4 _ _ rfl]
  · rw [g1 (by decide), g1 (by decide), hI1, ui_c (by decide), ui_j hk, ui_c (by decide), ui_j hk, ui_c (by decide), ui_c (by decide)]
    exact ⟨rfl, rfl⟩
  · rw [o4 _ (by omega), o3 _ (by omega), o2 _ (by omega)]; exact s1 _ _ rfl
  · rw [o5 _ (by omega), p4 _ (by omega)]

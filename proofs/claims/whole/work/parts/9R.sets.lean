/-! LAYER 2: sets, the call -/
def frS (g : Nat → Int64) (s : Nat) : Bool := (fsS (fun s' => decide (g s' = g s)) s).isNone
theorem frS_iff {g : Nat → Int64} {s : Nat} : frS g s = true ↔ ∀ s', s' < s → g s' ≠ g s := by
  unfold frS
  rw [no_iff]
  simp only [decide_eq_false_iff_not, ne_eq]
theorem nw1 (p : Nat → Bool) (g : Nat → Int64) (N : Nat) : pcP N (nwP (fun s => p s == true) (fun _ => false) g N) = pcP N (Gc p g N) := by
  rw [← FG]
  apply pcP_c
  intro k _
  unfold nwP Fc
  have h1 : (fsS (fun s' => false && decide (g s' = g k)) N).isNone = true := no_iff.mpr (fun j _ => rfl)
  rw [h1]
  simp
theorem nw2 {p e' : Nat → Bool} {g : Nat → Int64} {N : Nat} (h1 : ∀ s, s < N → p s = true → ∃ s', s' < N ∧ e' s' = true ∧ g s' = g s) (h2 : ∀ s, e' s = true → s < N ∧ p s = true) : pcP N (nwP (fun s => p s == false) e' g N) = pcP N (fun s => frS g s && !(fsS (fun s' => p s' && decide (g s' = g s)) N).isSome) := by
  apply pcP_c
  intro k hk
  apply bool_ext
  unfold nwP
  rw [Bool.and_eq_true, Bool.and_eq_true, Bool.and_eq_true, no_iff, no_iff, frS_iff, Bool.not_eq_true', ← Bool.not_eq_true, so_iff]
  constructor
  · rintro ⟨⟨a1, a2⟩, a3⟩
    have hcl : ¬ ∃ j, j < N ∧ (p j && decide (g j = g k)) = true := by
      rintro ⟨j, j1, j2⟩
      rw [Bool.and_eq_true, decide_eq_true_eq] at j2
      obtain ⟨s2, t1, t2, t3⟩ := h1 j j1 j2.1
      have := a2 s2 t1
      simp [t2, t3.trans j2.2] at this
    refine ⟨fun s' hs' hg => ?_, hcl⟩
    cases hp : p s' with
    | true => exact hcl ⟨s', by omega, by simp [hp, hg]⟩
    | false => have := a3 s' hs'; simp [hp, hg] at this
  · rintro ⟨a1, a2⟩
    refine ⟨⟨?_, fun j hj => ?_⟩, fun j hj => ?_⟩
    · show (p k == false) = true
      cases hp : p k with
      | false => rfl
      | true => exact absurd ⟨k, hk, by simp [hp]⟩ a2
    · cases he : e' j with
      | false => rfl
      | true =>
        obtain ⟨q1, q2⟩ := h2 j he
        rw [Bool.true_and, decide_eq_false_iff_not]
        intro hg
        exact a2 ⟨j, q1, by simp [q2, hg]⟩
    · rw [decide_eq_false (a1 j hj), Bool.and_false]
theorem X12_sets_F {B : Bd} (hW : bW B ≤ 7) {I : HI} {J : HJ} (hg : ∀ s, s < 3 ^ bW B → J m_glow s = gS B 0 s) {l1 l2 l5 : Int32} {s : Nat} (hs : s < 3 ^ bW B) {kx : Int32 → Option (Int32 × HI × HJ)} {Q : Int32 × HI × HJ → Prop} (hx : Ok (kx (b1 (frS (gS B 0) s))) Q) : ∀ K k, k ≤ s → s - k < K → ∀ v, (v = true ↔ ∀ j, j < k → gS B 0 j ≠ gS B 0 s) → Ok (F_X12_sets_L55 l1 l2 (nI s) l5 I J kx K (b1 v) (nI k)) Q := by
  have hp := p3_le hW
  refine up ?_ ?_
  · intro K v hv
    rw [F_X12_sets_L55]
    rw [show v = frS (gS B 0) s from bool_ext (by rw [hv, frS_iff])]
    exact Ok.t (by rw [n_le] <;> omega) hx
  · intro K k hk ih v hv
    rw [F_X12_sets_L55]
    refine Ok.f (by rw [n_le] <;> omega) ?_
    cases v with
    | false =>
      have : frS (gS B 0) s = false := by
        cases hf : frS (gS B 0) s with
        | false => rfl
        | true => have := hv.mpr (fun j hj => frS_iff.mp hf j (by omega)); cases this
      rw [this] at hx
      exact Ok.t rfl hx
    | true =>
      refine Ok.f (by decide) (Ok.bxe (by omega) (by omega) (Ok.bxe (by omega) (by omega) (Ok.lbv ?_)))
      rw [n_cl (by omega), n_cl (by omega), hg k (by omega), hg s hs, nI_1]
      have hv' := hv.mp rfl
      by_cases e : gS B 0 k = gS B 0 s
      · exact Ok.t (lc0.mpr e) (ih false ⟨fun h => (by cases h), fun h => absurd e (h k (by omega))⟩)
      · refine Ok.f (fun h0 => e (lc0.mp h0)) (ih true ⟨fun _ j hj => ?_, fun _ => rfl⟩)
        by_cases c : j = k
        · rw [c]; exact e
        · exact hv' j (by omega)
theorem X12_sets_C {B : Bd} (hW : bW B ≤ 7) {I : HI} {J : HJ} (hst : F_X12_settings I J = some (nI (3 ^ bW B))) (hg : faQ B I J) {l1 l2 : Int32} {s : Nat} (hs : s < 3 ^ bW B) (hf : frS (gS B 0) s = true) {kx : Int32 → Option (Int32 × HI × HJ)} {Q : Int32 × HI × HJ → Prop} (hx : Ok (kx (b1 (Gc (clS B) (gS B 0) (3 ^ bW B) s))) Q) : ∀ K k, k ≤ 3 ^ bW B → 3 ^ bW B - k < K → s < k → ∀ v, (v = true ↔ ∃ j, j < k ∧ clS B j = true ∧ gS B 0 j = gS B 0 s) → Ok (F_X12_sets_L109 l1 l2 (nI s) I J kx K (b1 v) (nI k)) Q := by
  have hp := p3_le hW
  refine up ?_ ?_
  · intro K _ v hv
    rw [F_X12_sets_L109]
    rw [show v = Gc (clS B) (gS B 0) (3 ^ bW B) s from bool_ext (by rw [hv, Gc_iff]; exact ⟨fun h => ⟨frS_iff.mp hf, h⟩, fun h => h.2⟩)]
    exact Ok.cpe hst (Ok.t (by rw [n_le] <;> omega) hx)
  · intro K k hk ih hsk v hv
    rw [F_X12_sets_L109]
    refine Ok.cpe hst (Ok.f (by rw [n_le] <;> omega) ?_)
    cases v with
    | true =>
      obtain ⟨j, j1, j2, j3⟩ := hv.mp rfl
      have : Gc (clS B) (gS B 0) (3 ^ bW B) s = true := Gc_iff.mpr ⟨frS_iff.mp hf, j, by omega, j2, j3⟩
      rw [this] at hx
      exact Ok.f (by decide) hx
    | false =>
      refine Ok.t rfl (Ok.bxe (by omega) (by omega) (Ok.bxe (by omega) (by omega) (Ok.lbv (Ok.lbv ?_))))
      rw [n_cl (by omega), n_cl (by omega), (hg k hk).1, (hg s hs).1, nI_1]
      have hno : ¬ (clS B k = true ∧ gS B 0 k = gS B 0 s) → Ok (F_X12_sets_L109 l1 l2 (nI s) I J kx K (b1 false) (nI (k + 1))) Q := fun hn => ih (by omega) false ⟨fun h => (by cases h), fun ⟨j, j1, j2, j3⟩ => by
        by_cases c : j = k
        · rw [c] at j2 j3; exact absurd ⟨j2, j3⟩ hn
        · exact hv.mpr ⟨j, by omega, j2, j3⟩⟩
      by_cases e : gS B 0 k = gS B 0 s
      · refine Ok.t (lc0.mpr e) (Ok.bxe (by omega) (by omega) ?_)
        rw [(hg k hk).2]
        cases hc : clS B k with
        | true => exact Ok.t (by rfl) (ih (by omega) true ⟨fun _ => ⟨k, by omega, hc, e⟩, fun _ => rfl⟩)
        | false => exact Ok.f (by decide) (hno (fun hh => by rw [hc] at hh; cases hh.1))
      · exact Ok.f (fun h0 => e (lc0.mp h0)) (hno (fun hh => e hh.2))
theorem X12_sets_L {B : Bd} (hW : bW B ≤ 7) {I : HI} {J : HJ} (hst : F_X12_settings I J = some (nI (3 ^ bW B))) (hg : faQ B I J) {kx : Int32 → Int32 → Option (Int32 × HI × HJ)} {Q : Int32 × HI × HJ → Prop} (hx : Ok (kx (nI (pcP (3 ^ bW B) (frS (gS B 0)))) (nI (pcP (3 ^ bW B) (Gc (clS B) (gS B 0) (3 ^ bW B))))) Q) : ∀ K s, s ≤ 3 ^ bW B → 3 ^ bW B - s < K → Ok (F_X12_sets_L25 I J kx K (nI (pcP s (frS (gS B 0)))) (nI (pcP s (Gc (clS B) (gS B 0) (3 ^ bW B)))) (nI s)) Q := by
  have hp := p3_le hW
  refine up ?_ ?_
  · intro K
    rw [F_X12_sets_L25]
    exact Ok.cpe hst (Ok.t (by rw [n_le] <;> omega) hx)
  · intro K s hs ih
    rw [pcP_s, pcP_s] at ih
    rw [F_X12_sets_L25]
    refine Ok.cpe hst (Ok.f (by rw [n_le] <;> omega) (Ok.bxe (by omega) (by omega) (Ok.lbv ?_)))
    have body : ∀ y, y = b1 (clS B s) → Ok (F_X12_sets_L55 (nI (pcP s (frS (gS B 0)))) (nI (pcP s (Gc (clS B) (gS B 0) (3 ^ bW B)))) (nI s) y I J (fun (y14 : Int32) =>
      lb (fun (y15 : Int32) (y16 : Int32) =>
      F_X12_sets_L25 I J kx K y15 y16 (nI s + 1)) fun j17 =>
      if y14 = 0 then
        j17 (nI (pcP s (frS (gS B 0)))) (nI (pcP s (Gc (clS B) (gS B 0) (3 ^ bW B))))
      else
        lb ((nI s + (1 : Int32))) fun x18 =>
        F_X12_sets_L109 (nI (pcP s (frS (gS B 0)))) (nI (pcP s (Gc (clS B) (gS B 0) (3 ^ bW B)))) (nI s) I J (fun (y23 : Int32) =>
        lb (fun (y24 : Int32) (y25 : Int32) =>
        lb ((y24 + y25)) fun x27 =>
        j17 (nI (pcP s (frS (gS B 0))) + 1) x27) fun j26 =>
        if y23 = 0 then
          j26 (nI (pcP s (Gc (clS B) (gS B 0) (3 ^ bW B)))) (0 : Int32)
        else
          j26 (nI (pcP s (Gc (clS B) (gS B 0) (3 ^ bW B)))) (1 : Int32)) bgf y x18) bgf (1 : Int32) (0 : Int32)) Q := by
      intro y hy
      refine X12_sets_F hW (fun s hs => (hg s hs).1) hs ?_ bgf 0 (Nat.zero_le _) (by unfold bgf; omega) true ⟨fun _ j hj => (by omega), fun _ => rfl⟩
      refine Ok.lbv ?_
      rw [nI_1]
      cases hf : frS (gS B 0) s with
      | false =>
        have hG : Gc (clS B) (gS B 0) (3 ^ bW B) s = false := by
          cases hG : Gc (clS B) (gS B 0) (3 ^ bW B) s with
          | false => rfl
          | true => have := frS_iff.mpr (Gc_iff.mp hG).1; rw [hf] at this; cases this
        rw [hf, hG] at ih
        exact Ok.t rfl ih
      | true =>
        refine Ok.f (by decide) (Ok.lbv ?_)
        rw [hy]
        refine X12_sets_C hW hst hg hs hf ?_ bgf (s + 1) (by omega) (by unfold bgf; omega) (by omega) (clS B s) ⟨fun h => ⟨s, by omega, h, rfl⟩, fun ⟨j, j1, j2, j3⟩ => ?_⟩
        · refine Ok.lbv ?_
          rw [nI_1]
          rw [hf] at ih
          cases hG : Gc (clS B) (gS B 0) (3 ^ bW B) s with
          | false =>
            rw [hG] at ih
            refine Ok.t rfl (Ok.lbv ?_)
            rw [Int32.add_zero]; exact ih
          | true =>
            rw [hG] at ih
            refine Ok.f (by decide) (Ok.lbv ?_)
            rw [nI_1]; exact ih
        · by_cases c : j = s
          · rw [c] at j2; exact j2
          · exact absurd j3 (frS_iff.mp hf j (by omega))
    rw [n_cl (by omega), (hg s hs).2]
    cases hc : clS B s with
    | true => exact Ok.t (by rfl) (body 1 (by rw [hc]; rfl))
    | false => exact Ok.f (by decide) (body 0 (by rw [hc]; rfl))

theorem OP18 (n : Nat) (b : Bool) (I : HI) (J : HJ) (a1 a2 a3 a4 : Int32) (h : Iv (n + 1) b I J) : Op18 (Iv n) b I J a1 a2 a3 a4 := by
  obtain ⟨B, nb, h⟩ := h
  have hB := h.1
  have h60 := hB.2.2.1
  have hX := h.2.1
  have hM0 := h.2.2.1
  have hTF := h.2.2.2.2.2.2.2.2.2
  have hN := h.2.2.2.2.1

  by_cases hW : bW B ≤ 7
  · have hp := p3_le hW
    skip
    refine srch h (fr_X11_sets I J) (fun I1 J1 => fr_X12_sets I1 J1) (by decide) (nI (pcP (3 ^ bW B) (frS (gS B 0)))) (some [Int32.toInt64 (nI (pcP (3 ^ bW B) (Gc (clS B) (gS B 0) (3 ^ bW B))))]) ?_ ?_
    · unfold F_X11_sets
      refine openX hB hW hX hTF.1 hTF.2.1 (fun I3 J4 hX3 hR s1 s2 => ?_)
      refine Ok.call (fl_x_table_slots 0 I3 J4) (fun r I5 J5 _ hP => ?_)
      obtain ⟨f1, f2, f3⟩ := hP
      simp only at f1 f2 f3
      subst f1
      have hR5 : rfQ B I5 J5 := hR.keep (Ag.of f3 (by decide)) (fun _ _ _ => rfl) (Ag.of f3 (by decide)) (fun _ _ _ => rfl)
      have hs5 : slQ (gS B 0) (3 ^ bW B) (fun _ => false) I5 := ⟨fun _ => 0, fun k hk => f2 k hk, fun k _ => Or.inl rfl, (fun s _ h => by cases h), (by rw [pcP_0 (fun k _ => by simp)]; exact Nat.zero_le _)⟩
      refine Ok.call ((X8_newSets (c := true) I5 J5 hR5.1 hs5).fo (fr_X8_newSets _ I5 J5)) (fun r6 I6 J6 _ hP => ?_)
      obtain ⟨⟨g1, g2, e1, g3, g4, g5, _⟩, gf, _⟩ := hP
      simp only at g1 g2 g3 g4 g5 gf
      subst g2
      have hR6 : rfQ B I6 J6 := hR5.keep (Ag.of gf (by decide)) (fun _ _ _ => rfl) (Ag.of gf (by decide)) (fun _ _ _ => rfl)
      refine Ok.call ((X8_newSets (c := false) I6 J6 hR6.1 g3).fo (fr_X8_newSets _ I6 J6)) (fun r9 I7 J7 _ hP => ?_)
      obtain ⟨⟨k1, k2, e2, k3, k4, k5, _⟩, kf, _⟩ := hP
      simp only at k1 k2 kf
      subst k2
      have hR7 : rfQ B I7 J7 := hR6.keep (Ag.of kf (by decide)) (fun _ _ _ => rfl) (Ag.of kf (by decide)) (fun _ _ _ => rfl)
      refine clr1 (fun I8 c1 c2 => ?_)
      refine add1 c1 (by simp) (fun I9 J9 d1 d2 d3 => ?_)
      have hsub : ∀ s, e1 s = true → s < 3 ^ bW B ∧ clS B s = true := fun s hs => (g5 s hs).resolve_left (fun h => by cases h)
      rw [nw1 (clS B) (gS B 0)] at g1
      rw [nw2 (p := clS B) (g := gS B 0) g4 hsub] at k1
      have hsum := pcP_sp (3 ^ bW B) (frS (gS B 0)) (fun s => (fsS (fun s' => clS B s' && decide (gS B 0 s' = gS B 0 s)) (3 ^ bW B)).isSome)
      refine Ok.mk ⟨?_, ((hR7.k1 c2 Sm.rf).k1 d2 d3).tab, ((hR7.k1 c2 Sm.rf).k1 d2 d3).2.2, ?_⟩
      · dsimp only
        rw [g1, k1, nI_add, ← hsum]; rfl
      · rw [g1] at d1; exact d1
    · intro I1 J1 hM hMo u1 u2
      have sT := th_s I1 0
      have hM2 : MB B (ui I1 m_self f_Model_thrown 0) := hM.keep (Ag.of sT (by decide))
      unfold F_X12_sets
      refine Ok.lbv (Ok.cpe ((X12_can hB _ _ hM2).1 hW) (Ok.f (by decide) (allM hB hW hM2 (hMo.keep (Ag.of sT (by decide))) (fun I3 J4 hM3 hMo3 hfa hst t1 t2 => ?_))))
      refine X12_sets_L hW hst hfa ?_ bgf 0 (Nat.zero_le _) (by unfold bgf; omega)
      refine clrM (J := J4) (fun I6 c1 c2 => ?_)
      refine tel1 c1 (by simp) (fun I7 J7 d1 d2 d3 => ?_)
      exact Ok.mk ⟨rfl, (hMo3.k1 c2).k1 d2, d1⟩
  · refine srch h (fr_X11_sets I J) (fun I1 J1 => fr_X12_sets I1 J1) (by decide) (-3) none ?_ ?_
    · unfold F_X11_sets
      exact noX hB hW hX (Ok.mk ⟨rfl, hTF.1, hTF.2.1, rfl, rfl⟩)
    · intro I1 J1 hM hMo u1 u2
      have sT := th_s I1 0
      have hM2 : MB B (ui I1 m_self f_Model_thrown 0) := hM.keep (Ag.of sT (by decide))
      unfold F_X12_sets
      exact Ok.lbv (Ok.cpe ((X12_can hB _ _ hM2).2 hW) (Ok.t (by decide) (Ok.mk ⟨rfl, hMo.keep (Ag.of sT (by decide)), toM_o sT (Sm.rf (w := [])) (by decide) (by decide)⟩)))

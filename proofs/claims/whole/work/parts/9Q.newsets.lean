/-! LAYER 2: sets, the counts -/
def Fc (p : Nat → Bool) (g : Nat → Int64) (s : Nat) : Bool := p s && (fsS (fun s' => p s' && decide (g s' = g s)) s).isNone
def Gc (p : Nat → Bool) (g : Nat → Int64) (n s : Nat) : Bool := (fsS (fun s' => decide (g s' = g s)) s).isNone && (fsS (fun s' => p s' && decide (g s' = g s)) n).isSome
theorem no_iff {q : Nat → Bool} {n : Nat} : (fsS q n).isNone = true ↔ ∀ j, j < n → q j = false := by rw [Option.isNone_iff_eq_none, fsS_none]
theorem so_iff {q : Nat → Bool} {n : Nat} : (fsS q n).isSome = true ↔ ∃ j, j < n ∧ q j = true := by
  cases h : fsS q n with
  | none =>
    have := fsS_none.mp h
    simp only [Option.isSome_none, Bool.false_eq_true, false_iff]
    rintro ⟨j, h1, h2⟩
    rw [this j h1] at h2; cases h2
  | some s =>
    obtain ⟨h1, h2, _⟩ := fsS_some.mp h
    simp only [Option.isSome_some, true_iff]
    exact ⟨s, h1, h2⟩
theorem Fc_iff {p : Nat → Bool} {g : Nat → Int64} {s : Nat} : Fc p g s = true ↔ p s = true ∧ ∀ s', s' < s → p s' = true → g s' ≠ g s := by
  unfold Fc
  rw [Bool.and_eq_true, no_iff]
  constructor
  · rintro ⟨h1, h2⟩
    refine ⟨h1, fun s' hs hp hg => ?_⟩
    have := h2 s' hs
    simp [hp, hg] at this
  · rintro ⟨h1, h2⟩
    refine ⟨h1, fun j hj => ?_⟩
    cases hp : p j with
    | false => rfl
    | true => simp; exact h2 j hj hp
theorem Gc_iff {p : Nat → Bool} {g : Nat → Int64} {n s : Nat} : Gc p g n s = true ↔ (∀ s', s' < s → g s' ≠ g s) ∧ ∃ s', s' < n ∧ p s' = true ∧ g s' = g s := by
  unfold Gc
  rw [Bool.and_eq_true, no_iff, so_iff]
  simp only [decide_eq_false_iff_not, Bool.and_eq_true, decide_eq_true_eq, ne_eq]
theorem bool_ext {a b : Bool} (h : a = true ↔ b = true) : a = b := Bool.eq_iff_iff.mpr h
theorem FG (p : Nat → Bool) (g : Nat → Int64) (n : Nat) : pcP n (Fc p g) = pcP n (Gc p g n) := by
  induction n with
  | zero => rfl
  | succ n ih =>
    rw [pcP_s, pcP_s, ih]
    cases hF : Fc p g n with
    | true =>
      obtain ⟨f1, f2⟩ := Fc_iff.mp hF
      cases hs : fsS (fun s => decide (g s = g n)) n with
      | some s0 =>
        obtain ⟨k1, k2, k3⟩ := fsS_some.mp hs
        have k2' : g s0 = g n := by simpa using k2
        have e1 : Gc p g (n + 1) n = false := by
          cases hG : Gc p g (n + 1) n with
          | false => rfl
          | true => exact absurd k2' ((Gc_iff.mp hG).1 s0 k1)
        have e2 : pcP n (Gc p g (n + 1)) = pcP n (Gc p g n) + 1 := by
          refine pcP_one k1 ?_ ?_ (fun k hk c => ?_)
          · cases hG : Gc p g n s0 with
            | false => rfl
            | true =>
              obtain ⟨_, s', h1, h2, h3⟩ := Gc_iff.mp hG
              exact absurd (h3.trans k2') (f2 s' h1 h2)
          · refine Gc_iff.mpr ⟨fun s' hs' hh => ?_, n, by omega, f1, k2'.symm⟩
            have := k3 s' hs'
            simp only [decide_eq_false_iff_not] at this
            exact this (hh.trans k2')
          · refine bool_ext ?_
            rw [Gc_iff, Gc_iff]
            constructor
            · rintro ⟨h1, s', h2, h3, h4⟩
              refine ⟨h1, s', ?_, h3, h4⟩
              by_cases cs : s' = n
              · exfalso
                rw [cs] at h4
                by_cases ck : s0 < k
                · exact h1 s0 ck (k2'.trans h4)
                · have := k3 k (by omega)
                  simp only [decide_eq_false_iff_not] at this
                  exact this h4.symm
              · omega
            · rintro ⟨h1, s', h2, h3, h4⟩
              exact ⟨h1, s', by omega, h3, h4⟩
        rw [e1, e2]; rfl
      | none =>
        have hn := fsS_none.mp hs
        have hn' : ∀ k, k < n → g k ≠ g n := fun k hk => by
          have := hn k hk
          simpa only [decide_eq_false_iff_not] using this
        have e1 : Gc p g (n + 1) n = true := Gc_iff.mpr ⟨hn', n, by omega, f1, rfl⟩
        have e2 : pcP n (Gc p g (n + 1)) = pcP n (Gc p g n) := pcP_c (fun k hk => bool_ext (by
          rw [Gc_iff, Gc_iff]
          constructor
          · rintro ⟨h1, s', h2, h3, h4⟩
            refine ⟨h1, s', ?_, h3, h4⟩
            by_cases cs : s' = n
            · rw [cs] at h4; exact absurd h4.symm (hn' k hk)
            · omega
          · rintro ⟨h1, s', h2, h3, h4⟩
            exact ⟨h1, s', by omega, h3, h4⟩))
        rw [e1, e2]
    | false =>
      have hno : p n = true → ∃ s', s' < n ∧ p s' = true ∧ g s' = g n := by
        intro hp
        by_cases c : ∃ s', s' < n ∧ p s' = true ∧ g s' = g n
        · exact c
        · have := Fc_iff.mpr ⟨hp, fun s' h1 h2 h3 => c ⟨s', h1, h2, h3⟩⟩
          rw [hF] at this; cases this
      have e1 : Gc p g (n + 1) n = false := by
        cases hG : Gc p g (n + 1) n with
        | false => rfl
        | true =>
          obtain ⟨h1, s', h2, h3, h4⟩ := Gc_iff.mp hG
          by_cases cs : s' = n
          · rw [cs] at h3
            obtain ⟨s2, q1, q2, q3⟩ := hno h3
            exact absurd q3 (h1 s2 q1)
          · exact absurd h4 (h1 s' (by omega))
      have e2 : pcP n (Gc p g (n + 1)) = pcP n (Gc p g n) := pcP_c (fun k hk => bool_ext (by
        rw [Gc_iff, Gc_iff]
        constructor
        · rintro ⟨h1, s', h2, h3, h4⟩
          by_cases cs : s' = n
          · rw [cs] at h3 h4
            obtain ⟨s2, q1, q2, q3⟩ := hno h3
            exact ⟨h1, s2, q1, q2, q3.trans h4⟩
          · exact ⟨h1, s', by omega, h3, h4⟩
        · rintro ⟨h1, s', h2, h3, h4⟩
          exact ⟨h1, s', by omega, h3, h4⟩))
      rw [e1, e2]
theorem pcP_sp (n : Nat) (a h : Nat → Bool) : pcP n (fun s => a s && h s) + pcP n (fun s => a s && !h s) = pcP n a := by
  induction n with
  | zero => rfl
  | succ n ih =>
    rw [pcP_s, pcP_s, pcP_s, ← ih]
    cases a n <;> cases h n <;> simp <;> omega
/-- new ones of one kind -/
def nwP (p e0 : Nat → Bool) (g : Nat → Int64) (N s : Nat) : Bool := p s && (fsS (fun s' => e0 s' && decide (g s' = g s)) N).isNone && (fsS (fun s' => p s' && decide (g s' = g s)) s).isNone
theorem X8_newSets {B : Bd} {c : Bool} {e0 : Nat → Bool} (I : HI) (J : HJ) (hT : tabOk B I J) (h : slQ (gS B 0) (3 ^ bW B) e0 I) : Ok (F_X8_newSets (b1 c) I J) (fun q => q.1 = nI (pcP (3 ^ bW B) (nwP (fun s => clS B s == c) e0 (gS B 0) (3 ^ bW B))) ∧ q.2.2 = J ∧ ∃ e', slQ (gS B 0) (3 ^ bW B) e' q.2.1 ∧ (∀ s, s < 3 ^ bW B → clS B s = c → ∃ s', s' < 3 ^ bW B ∧ e' s' = true ∧ gS B 0 s' = gS B 0 s) ∧ (∀ s, e' s = true → e0 s = true ∨ (s < 3 ^ bW B ∧ clS B s = c)) ∧ ∀ s, e0 s = true → e' s = true) := by
  have hp := p3_le hT.1
  unfold F_X8_newSets
  have hl : ∀ K k, k ≤ 3 ^ bW B → 3 ^ bW B - k < K → ∀ I e, tabOk B I J → slQ (gS B 0) (3 ^ bW B) e I → (∀ s, s < k → clS B s = c → ∃ s', s' < 3 ^ bW B ∧ e s' = true ∧ gS B 0 s' = gS B 0 s) → (∀ s, e s = true → e0 s = true ∨ (s < k ∧ clS B s = c)) → (∀ s, e0 s = true → e s = true) → Ok (F_X8_newSets_L4 (b1 c) K (nI (pcP k (nwP (fun s => clS B s == c) e0 (gS B 0) (3 ^ bW B)))) (nI k) I J) (fun q => q.1 = nI (pcP (3 ^ bW B) (nwP (fun s => clS B s == c) e0 (gS B 0) (3 ^ bW B))) ∧ q.2.2 = J ∧ ∃ e', slQ (gS B 0) (3 ^ bW B) e' q.2.1 ∧ (∀ s, s < 3 ^ bW B → clS B s = c → ∃ s', s' < 3 ^ bW B ∧ e' s' = true ∧ gS B 0 s' = gS B 0 s) ∧ (∀ s, e' s = true → e0 s = true ∨ (s < 3 ^ bW B ∧ clS B s = c)) ∧ ∀ s, e0 s = true → e' s = true) := by
    refine up ?_ ?_
    · intro K I e hT hS hc hs hm
      rw [F_X8_newSets_L4]
      exact Ok.t (by rw [hT.2.1, n_le] <;> omega) (Ok.mk ⟨rfl, rfl, e, hS, hc, hs, hm⟩)
    · intro K k hk ih I e hT hS hc hs hm
      rw [F_X8_newSets_L4]
      refine Ok.f (by rw [hT.2.1, n_le] <;> omega) (Ok.bxe (by omega) (by omega) (Ok.lbv ?_))
      rw [n_cl (by omega), (hT.2.2.1 k hk).2, nI_1]
      rw [pcP_s] at ih
      by_cases hck : clS B k = c
      · refine Ok.t (by rw [hck]) ?_
        refine Ok.call ((X8_enter hp hk (fun s hs => (hT.2.2.1 s hs).1) hS).fo (fr_X8_enter _ I J)) (fun r I5 J5 _ hP => ?_)
        obtain ⟨⟨q1, q2⟩, q5, _⟩ := hP
        simp only at q1 q2 q5
        subst q1
        have hT5 : tabOk B I5 J5 := hT.keep (Ag.of q5 (by decide)) (fun _ _ _ => rfl)
        rcases q2 with ⟨r0, rI, s', r1, r2, r3⟩ | ⟨r0, r1, r2⟩
        · subst rI
          have hw : nwP (fun s => clS B s == c) e0 (gS B 0) (3 ^ bW B) k = false := by
            cases hw : nwP (fun s => clS B s == c) e0 (gS B 0) (3 ^ bW B) k with
            | false => rfl
            | true =>
              unfold nwP at hw
              rw [Bool.and_eq_true, Bool.and_eq_true, no_iff, no_iff] at hw
              obtain ⟨⟨_, w2⟩, w3⟩ := hw
              rcases hs s' r2 with hh | ⟨hh1, hh2⟩
              · have := w2 s' r1; simp [hh, r3] at this
              · have := w3 s' hh1; simp [hh2, r3] at this
          rw [hw] at ih
          refine Ok.t r0 (ih I5 e hT5 hS (fun s hs' hcs => ?_) (fun s he => ?_) hm)
          · by_cases cs : s = k
            · rw [cs]; exact ⟨s', r1, r2, r3⟩
            · exact hc s (by omega) hcs
          · rcases hs s he with hh | ⟨h1, h2⟩
            · exact Or.inl hh
            · exact Or.inr ⟨by omega, h2⟩
        · have hw : nwP (fun s => clS B s == c) e0 (gS B 0) (3 ^ bW B) k = true := by
            unfold nwP
            rw [Bool.and_eq_true, Bool.and_eq_true, no_iff, no_iff]
            refine ⟨⟨by simp [hck], fun j hj => ?_⟩, fun j hj => ?_⟩
            · cases he : e0 j with
              | false => rfl
              | true => simp; exact r1 j hj (hm j he)
            · show ((clS B j == c) && decide (gS B 0 j = gS B 0 k)) = false
              cases he : (clS B j == c) with
              | false => rfl
              | true =>
                rw [Bool.true_and, decide_eq_false_iff_not]
                intro hg
                obtain ⟨s2, t1, t2, t3⟩ := hc j hj (by simpa using he)
                exact r1 s2 t1 t2 (t3.trans hg)
          rw [hw] at ih
          refine Ok.f (by rw [r0]; decide) ?_
          rw [nI_1]
          refine ih I5 (fun s => e s || decide (s = k)) hT5 r2 (fun s hs' hcs => ?_) (fun s he => ?_) (fun s he => ?_)
          · by_cases cs : s = k
            · exact ⟨k, hk, by simp, by rw [cs]⟩
            · obtain ⟨s2, t1, t2, t3⟩ := hc s (by omega) hcs
              exact ⟨s2, t1, by rw [t2]; rfl, t3⟩
          · by_cases cs : s = k
            · exact Or.inr ⟨by omega, by rw [cs]; exact hck⟩
            · have he2 : e s = true := by simpa [cs] using he
              rcases hs s he2 with hh | ⟨h1, h2⟩
              · exact Or.inl hh
              · exact Or.inr ⟨by omega, h2⟩
          · rw [hm s he]; rfl
      · have hw : nwP (fun s => clS B s == c) e0 (gS B 0) (3 ^ bW B) k = false := by
          have : (clS B k == c) = false := by simpa using hck
          show ((clS B k == c) && _ && _) = false
          rw [this]; rfl
        rw [hw] at ih
        refine Ok.f (fun hh => hck ?_) (ih I e hT hS (fun s hs' hcs => ?_) (fun s he => ?_) hm)
        · revert hh; cases clS B k <;> cases c <;> intro hh <;> first | rfl | (revert hh; decide)
        · by_cases cs : s = k
          · rw [cs] at hcs; exact absurd hcs hck
          · exact hc s (by omega) hcs
        · rcases hs s he with hh | ⟨h1, h2⟩
          · exact Or.inl hh
          · exact Or.inr ⟨by omega, h2⟩
  exact hl bgf 0 (Nat.zero_le _) (by unfold bgf; omega) I e0 hT h (fun s hs => by omega) (fun s he => Or.inl he) (fun s he => he)

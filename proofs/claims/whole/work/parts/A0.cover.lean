/-! LAYER 2: parted: what t turns can show -/
/-- the members x are shown by t settings -/
def cvr (cv : Nat → Int32) (N : Nat) : Nat → Int32 → Prop
  | 0, x => x = nI 0
  | t+1, x => cvr cv N t x ∨ ∃ s, s < N ∧ cvr cv N t (x &&& (cv s ^^^ (-1 : Int32)))
theorem cvr_sub {cv : Nat → Int32} {N : Nat} : ∀ {t : Nat} {x y : Int32}, (∀ i, bi y i = true → bi x i = true) → cvr cv N t x → cvr cv N t y
  | 0, x, y, hs, h => by
    have h' : x = nI 0 := h
    show y = nI 0
    apply bi_ext
    intro j _
    rw [bi_z]
    cases hb : bi y j with
    | false => rfl
    | true => have := hs j hb; rw [h', bi_z] at this; cases this
  | t+1, x, y, hs, h => by
    rcases h with h | ⟨s, h1, h2⟩
    · exact Or.inl (cvr_sub hs h)
    · refine Or.inr ⟨s, h1, cvr_sub (fun i hi => ?_) h2⟩
      rw [bi_and, Bool.and_eq_true] at hi ⊢
      exact ⟨hs i hi.1, hi.2⟩
theorem cvr_up {cv : Nat → Int32} {N t : Nat} {x : Int32} (h : cvr cv N t x) : cvr cv N (t + 1) x := Or.inl h
theorem cvr_mo {cv : Nat → Int32} {N t u : Nat} {x : Int32} (h : cvr cv N t x) (hu : t ≤ u) : cvr cv N u x := by
  induction u with
  | zero => have : t = 0 := by omega
            rw [this] at h; exact h
  | succ u ih =>
    by_cases c : t = u + 1
    · rw [c] at h; exact h
    · exact cvr_up (ih (by omega))
theorem cvr_0 {cv : Nat → Int32} {N t : Nat} : cvr cv N t (nI 0) := cvr_mo (t := 0) rfl (Nat.zero_le _)
/-- a cover may be put first: what stands in it -/
theorem cvr_swap {cv : Nat → Int32} {N : Nat} : ∀ {t : Nat} {x : Int32} {s : Nat}, s < N → cvr cv N t (x &&& (cv s ^^^ (-1 : Int32))) → cvr cv N (t + 1) x := fun hs h => Or.inr ⟨_, hs, h⟩
/-- a member that is shown is shown by a setting that can go first -/
theorem cvr_first {cv : Nat → Int32} {N : Nat} : ∀ {t : Nat} {x : Int32} {i : Nat}, bi x i = true → cvr cv N (t + 1) x → ∃ s, s < N ∧ bi (cv s) i = true ∧ cvr cv N t (x &&& (cv s ^^^ (-1 : Int32)))
  | 0, x, i, hi, h => by
    rcases h with h | ⟨s, h1, h2⟩
    · have h' : x = nI 0 := h
      rw [h', bi_z] at hi; cases hi
    · refine ⟨s, h1, ?_, h2⟩
      have h' : x &&& (cv s ^^^ (-1 : Int32)) = nI 0 := h2
      have hlt : i < 32 := by
        by_cases c : i < 32
        · exact c
        · rw [bi_big (by omega)] at hi; cases hi
      have := bi_z i
      rw [← h', bi_and, bi_not hlt, hi] at this
      simpa using this
  | t+1, x, i, hi, h => by
    rcases h with h | ⟨s, h1, h2⟩
    · obtain ⟨s, h1, h2, h3⟩ := cvr_first hi h
      exact ⟨s, h1, h2, cvr_up h3⟩
    · by_cases c : bi (cv s) i = true
      · exact ⟨s, h1, c, h2⟩
      · have hlt : i < 32 := by
          by_cases c : i < 32
          · exact c
          · rw [bi_big (by omega)] at hi; cases hi
        have hi2 : bi (x &&& (cv s ^^^ (-1 : Int32))) i = true := by
          rw [bi_and, bi_not hlt, hi]; simpa using c
        obtain ⟨s2, g1, g2, g3⟩ := cvr_first hi2 h2
        refine ⟨s2, g1, g2, Or.inr ⟨s, h1, cvr_sub (fun j hj => ?_) g3⟩⟩
        rw [bi_and, bi_and, Bool.and_eq_true, Bool.and_eq_true] at hj ⊢
        exact ⟨⟨hj.1.1, hj.2⟩, hj.1.2⟩

/-! LAYER 2: parted: the least number of turns -/
/-- v is the least number of turns that show x, or big where none do -/
def lsT (cv : Nat → Int32) (N big : Nat) (x : Int32) (v : Nat) : Prop := (cvr cv N v x ∧ v < big ∧ ∀ u, u < v → ¬ cvr cv N u x) ∨ (v = big ∧ ∀ u, ¬ cvr cv N u x)
theorem lsT_0 {cv : Nat → Int32} {N big : Nat} (h : 0 < big) : lsT cv N big (nI 0) 0 := Or.inl ⟨rfl, h, fun u hu => by omega⟩
theorem lsT_u {cv : Nat → Int32} {N big : Nat} {x : Int32} {v w : Nat} (h1 : lsT cv N big x v) (h2 : lsT cv N big x w) : v = w := by
  rcases h1 with ⟨a1, a2, a3⟩ | ⟨a1, a2⟩ <;> rcases h2 with ⟨b1, b2, b3⟩ | ⟨b1, b2⟩
  · rcases Nat.lt_trichotomy v w with c | c | c
    · exact absurd a1 (b3 v c)
    · exact c
    · exact absurd b1 (a3 w c)
  · exact absurd a1 (b2 v)
  · exact absurd b1 (a2 w)
  · omega
theorem lsT_le {cv : Nat → Int32} {N big : Nat} {x : Int32} {v : Nat} (h : lsT cv N big x v) : v ≤ big := by
  rcases h with ⟨_, a2, _⟩ | ⟨a1, _⟩ <;> omega
theorem lsT_mono {cv : Nat → Int32} {N big : Nat} {x y : Int32} {v w : Nat} (hs : ∀ i, bi y i = true → bi x i = true) (h1 : lsT cv N big x v) (h2 : lsT cv N big y w) : w ≤ v := by
  rcases h1 with ⟨a1, a2, a3⟩ | ⟨a1, a2⟩
  · rcases h2 with ⟨b1, b2, b3⟩ | ⟨b1, b2⟩
    · by_cases c : w ≤ v
      · exact c
      · exact absurd (cvr_sub hs a1) (b3 v (by omega))
    · exact absurd (cvr_sub hs a1) (b2 v)
  · have := lsT_le h2; omega

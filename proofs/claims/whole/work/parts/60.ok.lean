/-! LAYER 2: that a computation answers, and what -/
def Ok {α : Type} (f : Option α) (Q : α → Prop) : Prop := ∃ a, f = some a ∧ Q a
theorem Ok.mk {α : Type} {a : α} {Q : α → Prop} (h : Q a) : Ok (some a) Q := ⟨a, rfl, h⟩
theorem Ok.mono {α : Type} {f : Option α} {P Q : α → Prop} (h : Ok f P) (k : ∀ a, P a → Q a) : Ok f Q := by
  obtain ⟨a, h1, h2⟩ := h
  exact ⟨a, h1, k a h2⟩
theorem Ok.lbv {α β : Type} {x : α} {F : α → Option β} {Q : β → Prop} (h : Ok (F x) Q) : Ok (lb x F) Q := h
theorem Ok.lbe {α β : Type} {x : α} {F : α → Option β} {Q : β → Prop} (h : ∀ y, y = x → Ok (F y) Q) : Ok (lb x F) Q := h x rfl
theorem Ok.ite {α : Type} {c : Prop} [Decidable c] {f g : Option α} {Q : α → Prop} (h1 : c → Ok f Q) (h2 : ¬ c → Ok g Q) : Ok (if c then f else g) Q := by
  by_cases hc : c
  · rw [if_pos hc]; exact h1 hc
  · rw [if_neg hc]; exact h2 hc
theorem Ok.t {α : Type} {c : Prop} [Decidable c] {f g : Option α} {Q : α → Prop} (hc : c) (h1 : Ok f Q) : Ok (if c then f else g) Q := by rw [if_pos hc]; exact h1
theorem Ok.f {α : Type} {c : Prop} [Decidable c] {f g : Option α} {Q : α → Prop} (hc : ¬ c) (h1 : Ok g Q) : Ok (if c then f else g) Q := by rw [if_neg hc]; exact h1
/-- an index within, by its Int -/
theorem inI {x : Int32} {n : Nat} (h0 : 0 ≤ x.toInt) (hn : x.toInt < (n : Int)) : ¬ (x < 0 ∨ n ≤ x.toNatClampNeg) := by
  have := vp_in_iff (x := x) (n := n)
  exact this.mpr ⟨h0, hn⟩
theorem Ok.gbx {α : Type} {x : Int32} {n : Nat} {f : Option α} {Q : α → Prop} (h0 : 0 ≤ x.toInt) (hn : x.toInt < (n : Int)) (h : Ok f Q) : Ok (bx x n f) Q := Ok.f (inI h0 hn) h
theorem Ok.gg01 {α : Type} {v : Int32} {f : Option α} {Q : α → Prop} (hv : v = 0 ∨ v = 1) (h : Ok f Q) : Ok (g01 v f) Q := Ok.t hv h
theorem Ok.gzi {α : Type} {v : Int32} {f : Option α} {Q : α → Prop} (hv : ¬ v = 0) (h : Ok f Q) : Ok (nzi v f) Q := Ok.f hv h
theorem Ok.gzl {α : Type} {v : Int64} {f : Option α} {Q : α → Prop} (hv : ¬ v = 0) (h : Ok f Q) : Ok (nzl v f) Q := Ok.f hv h
theorem Ok.call {σ α : Type} {fc : Option (σ × HI × HJ)} {F : σ → HI → HJ → Option α} {P : σ × HI × HJ → Prop} {Q : α → Prop} (hc : Ok fc P) (k : ∀ r I J, fc = some (r, I, J) → P (r, I, J) → Ok (F r I J) Q) : Ok (cl fc F) Q := by
  obtain ⟨⟨r, I, J⟩, h1, h2⟩ := hc
  obtain ⟨a, g1, g2⟩ := k r I J h1 h2
  refine ⟨a, ?_, g2⟩
  unfold cl
  rw [h1]
  exact g1
theorem Ok.callp {σ α : Type} {fc : Option σ} {F : σ → Option α} {P : σ → Prop} {Q : α → Prop} (hc : Ok fc P) (k : ∀ r, P r → Ok (F r) Q) : Ok (cp fc F) Q := by
  obtain ⟨r, h1, h2⟩ := hc
  obtain ⟨a, g1, g2⟩ := k r h2
  refine ⟨a, ?_, g2⟩
  unfold cp
  rw [h1]
  exact g1
-- reads behind writes
theorem ui_r {I : HI} {c i : Nat} {v : Int32} : ui I c i v c i = v := by rw [ui_k]; simp [upd]
theorem ui_c {I : HI} {c i a : Nat} {v : Int32} (h : a ≠ c) : ui I c i v a = I a := ui_ne h
theorem ui_j {I : HI} {c i j : Nat} {v : Int32} (h : j ≠ i) : ui I c i v c j = I c j := by rw [ui_k]; simp [upd, h]
theorem uj_r {I : HJ} {c i : Nat} {v : Int64} : uj I c i v c i = v := by rw [uj_k]; simp [vp_updL]
theorem uj_c {I : HJ} {c i a : Nat} {v : Int64} (h : a ≠ c) : uj I c i v a = I a := uj_ne h
theorem uj_j {I : HJ} {c i j : Nat} {v : Int64} (h : j ≠ i) : uj I c i v c j = I c j := by rw [uj_k]; simp [vp_updL, h]
theorem ui_at {I : HI} {c i a j : Nat} {v : Int32} : ui I c i v a j = if a = c ∧ j = i then v else I a j := by
  by_cases h : a = c
  · subst h; by_cases h2 : j = i
    · subst h2; simp [ui_r]
    · simp [ui_j h2, h2]
  · simp [ui_c h, h]
theorem uj_at {I : HJ} {c i a j : Nat} {v : Int64} : uj I c i v a j = if a = c ∧ j = i then v else I a j := by
  by_cases h : a = c
  · subst h; by_cases h2 : j = i
    · subst h2; simp [uj_r]
    · simp [uj_j h2, h2]
  · simp [uj_c h, h]
-- Int32 by Int
theorem i_lt {x y : Int32} : x < y ↔ x.toInt < y.toInt := Int32.lt_iff_toInt_lt
theorem i_le {x y : Int32} : x ≤ y ↔ x.toInt ≤ y.toInt := Int32.le_iff_toInt_le
theorem i_eq {x y : Int32} : x = y ↔ x.toInt = y.toInt := ⟨fun h => by rw [h], fun h => Int32.toInt_inj.mp h⟩
theorem i_add {x y : Int32} (h1 : -2147483648 ≤ x.toInt + y.toInt) (h2 : x.toInt + y.toInt < 2147483648) : (x + y).toInt = x.toInt + y.toInt := by
  rw [Int32.toInt_add, Int.bmod_eq_of_le] <;> omega
theorem i_sub {x y : Int32} (h1 : -2147483648 ≤ x.toInt - y.toInt) (h2 : x.toInt - y.toInt < 2147483648) : (x - y).toInt = x.toInt - y.toInt := by
  rw [Int32.toInt_sub, Int.bmod_eq_of_le] <;> omega
theorem i_mul {x y : Int32} (h1 : -2147483648 ≤ x.toInt * y.toInt) (h2 : x.toInt * y.toInt < 2147483648) : (x * y).toInt = x.toInt * y.toInt := by
  rw [Int32.toInt_mul, Int.bmod_eq_of_le] <;> omega
theorem i_nat {x : Int32} (h : 0 ≤ x.toInt) : (x.toNatClampNeg : Int) = x.toInt := by
  rw [Int32.toNatClampNeg]; omega
theorem i_rng (x : Int32) : -2147483648 ≤ x.toInt ∧ x.toInt < 2147483648 := ⟨Int32.le_toInt x, Int32.toInt_lt x⟩
theorem uf_at {I : HI} {k a j : Nat} {f : Nat → Int32} : uf I k f a j = if a = k then f j else I a j := by unfold uf; split <;> rfl
theorem ufj_at {J : HJ} {k a j : Nat} {f : Nat → Int64} : ufj J k f a j = if a = k then f j else J a j := by unfold ufj; split <;> rfl
theorem cpy_at {α : Type} {f g : Nat → α} {n j : Nat} (h : j < n) : va_cpy f g 0 0 n j = f j := by
  unfold va_cpy; rw [if_pos (by omega)]; congr 1; omega
theorem uf_r {I : HI} {k : Nat} {f : Nat → Int32} : uf I k f k = f := by unfold uf; simp
theorem uf_c {I : HI} {k a : Nat} {f : Nat → Int32} (h : a ≠ k) : uf I k f a = I a := by unfold uf; simp [h]
theorem ufj_r {J : HJ} {k : Nat} {f : Nat → Int64} : ufj J k f k = f := by unfold ufj; simp
theorem ufj_c {J : HJ} {k a : Nat} {f : Nat → Int64} (h : a ≠ k) : ufj J k f a = J a := by unfold ufj; simp [h]
theorem k0c : Int32.toNatClampNeg (0 : Int32) = 0 := rfl
theorem k4c : Int32.toNatClampNeg (4 : Int32) = 4 := rfl
theorem k12c : Int32.toNatClampNeg (12 : Int32) = 12 := rfl
theorem k64c : Int32.toNatClampNeg (64 : Int32) = 64 := rfl
theorem k10c : Int32.toNatClampNeg (10 : Int32) = 10 := rfl

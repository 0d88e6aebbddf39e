/-! LAYER 2. What a computation may change: places (a cell, all of it or one slot) -/
abbrev Pl : Type := List (Nat × Option Nat)
def inW (w : Pl) (c j : Nat) : Bool := w.any (fun q => q.1 == c && (q.2 == none || q.2 == some j))
def subW (a b : Pl) : Bool := a.all (fun q => b.contains q)
theorem subW_in {a b : Pl} (h : subW a b = true) {c j : Nat} (hc : inW a c j = true) : inW b c j = true := by
  simp only [inW, List.any_eq_true] at hc ⊢
  obtain ⟨q, hq, h1⟩ := hc
  exact ⟨q, by simpa using List.all_eq_true.mp h q hq, h1⟩
def Sm {α : Type} (w : Pl) (I0 I : Nat → Nat → α) : Prop := ∀ c j, inW w c j = false → I c j = I0 c j
theorem Sm.rf {α : Type} {w : Pl} {I : Nat → Nat → α} : Sm w I I := fun _ _ _ => rfl
theorem Sm.mi {w : Pl} {I0 I : HI} {c i : Nat} {v : Int32} (hw : inW w c i = true) (h : Sm w I0 I) : Sm w I0 (ui I c i v) := by
  intro a j ha
  by_cases hac : a = c
  · subst hac
    rw [ui_k]
    by_cases hj : j = i
    · subst hj; rw [hw] at ha; cases ha
    · rw [upd, if_neg hj]; exact h a j ha
  · rw [ui_ne hac]; exact h a j ha
theorem Sm.mj {w : Pl} {I0 I : HJ} {c i : Nat} {v : Int64} (hw : inW w c i = true) (h : Sm w I0 I) : Sm w I0 (uj I c i v) := by
  intro a j ha
  by_cases hac : a = c
  · subst hac
    rw [uj_k]
    by_cases hj : j = i
    · subst hj; rw [hw] at ha; cases ha
    · rw [vp_updL, if_neg hj]; exact h a j ha
  · rw [uj_ne hac]; exact h a j ha
theorem Sm.mf {w : Pl} {I0 I : HI} {c : Nat} {f : Nat → Int32} (hw : ∀ i, inW w c i = true) (h : Sm w I0 I) : Sm w I0 (uf I c f) := by
  intro a j ha
  by_cases hac : a = c
  · subst hac; rw [hw j] at ha; cases ha
  · simp only [uf, if_neg hac]; exact h a j ha
theorem Sm.mfj {w : Pl} {I0 I : HJ} {c : Nat} {f : Nat → Int64} (hw : ∀ i, inW w c i = true) (h : Sm w I0 I) : Sm w I0 (ufj I c f) := by
  intro a j ha
  by_cases hac : a = c
  · subst hac; rw [hw j] at ha; cases ha
  · simp only [ufj, if_neg hac]; exact h a j ha
theorem Sm.tr {α : Type} {w w' : Pl} {I0 I1 I2 : Nat → Nat → α} (hs : subW w' w = true) (h : Sm w I0 I1) (g : Sm w' I1 I2) : Sm w I0 I2 := by
  intro c j hc
  rw [g c j, h c j hc]
  cases h' : inW w' c j with
  | false => rfl
  | true => rw [subW_in hs h'] at hc; cases hc
/-- f changes, of I0 and J0, at most the places wi and wj -/
def Fo {τ : Type} (wi wj : Pl) (I0 : HI) (J0 : HJ) (f : Option (τ × HI × HJ)) : Prop := ∀ r I J, f = some (r, I, J) → Sm wi I0 I ∧ Sm wj J0 J
section FO
variable {τ : Type} {wi wj : Pl} {I0 I : HI} {J0 J : HJ} {f : Option (τ × HI × HJ)}
theorem Fo.none : Fo wi wj I0 J0 (Option.none : Option (τ × HI × HJ)) := fun _ _ _ h => by cases h
theorem Fo.some {r : τ} (hI : Sm wi I0 I) (hJ : Sm wj J0 J) : Fo wi wj I0 J0 (Option.some (r, I, J)) := fun _ _ _ h => by cases h; exact ⟨hI, hJ⟩
theorem Fo.ite {c : Prop} [Decidable c] {f1 f2 : Option (τ × HI × HJ)} (h1 : Fo wi wj I0 J0 f1) (h2 : Fo wi wj I0 J0 f2) : Fo wi wj I0 J0 (if c then f1 else f2) := by
  by_cases hc : c
  · rw [if_pos hc]; exact h1
  · rw [if_neg hc]; exact h2
theorem Fo.gbx {x : Int32} {n : Nat} (h : Fo wi wj I0 J0 f) : Fo wi wj I0 J0 (bx x n f) := Fo.ite Fo.none h
theorem Fo.gzi {x : Int32} (h : Fo wi wj I0 J0 f) : Fo wi wj I0 J0 (nzi x f) := Fo.ite Fo.none h
theorem Fo.gzl {x : Int64} (h : Fo wi wj I0 J0 f) : Fo wi wj I0 J0 (nzl x f) := Fo.ite Fo.none h
theorem Fo.gg01 {x : Int32} (h : Fo wi wj I0 J0 f) : Fo wi wj I0 J0 (g01 x f) := Fo.ite h Fo.none
theorem Fo.lbv {α : Type} {x : α} {F : α → Option (τ × HI × HJ)} (h : ∀ x, Fo wi wj I0 J0 (F x)) : Fo wi wj I0 J0 (lb x F) := h x
theorem Fo.jn {α : Type} {x : α} {F : α → Option (τ × HI × HJ)} (P : α → Prop) (hx : P x) (h : ∀ x, P x → Fo wi wj I0 J0 (F x)) : Fo wi wj I0 J0 (lb x F) := h x hx
theorem Fo.lui {c i : Nat} {v : Int32} {F : HI → Option (τ × HI × HJ)} (hw : inW wi c i = true) (hI : Sm wi I0 I) (h : ∀ I1, Sm wi I0 I1 → Fo wi wj I0 J0 (F I1)) : Fo wi wj I0 J0 (lb (ui I c i v) F) := h _ (hI.mi hw)
theorem Fo.luj {c i : Nat} {v : Int64} {F : HJ → Option (τ × HI × HJ)} (hw : inW wj c i = true) (hJ : Sm wj J0 J) (h : ∀ J1, Sm wj J0 J1 → Fo wi wj I0 J0 (F J1)) : Fo wi wj I0 J0 (lb (uj J c i v) F) := h _ (hJ.mj hw)
theorem Fo.luf {c : Nat} {v : Nat → Int32} {F : HI → Option (τ × HI × HJ)} (hw : ∀ i, inW wi c i = true) (hI : Sm wi I0 I) (h : ∀ I1, Sm wi I0 I1 → Fo wi wj I0 J0 (F I1)) : Fo wi wj I0 J0 (lb (uf I c v) F) := h _ (hI.mf hw)
theorem Fo.lufj {c : Nat} {v : Nat → Int64} {F : HJ → Option (τ × HI × HJ)} (hw : ∀ i, inW wj c i = true) (hJ : Sm wj J0 J) (h : ∀ J1, Sm wj J0 J1 → Fo wi wj I0 J0 (F J1)) : Fo wi wj I0 J0 (lb (ufj J c v) F) := h _ (hJ.mfj hw)
theorem Fo.call {σ : Type} {wi' wj' : Pl} {fc : Option (σ × HI × HJ)} {F : σ → HI → HJ → Option (τ × HI × HJ)} (hc : Fo wi' wj' I J fc) (h1 : subW wi' wi = true) (h2 : subW wj' wj = true) (hI : Sm wi I0 I) (hJ : Sm wj J0 J) (h : ∀ r I1 J1, Sm wi I0 I1 → Sm wj J0 J1 → Fo wi wj I0 J0 (F r I1 J1)) : Fo wi wj I0 J0 (cl fc F) := by
  intro r I2 J2 hf
  cases hq : fc with
  | none => rw [hq] at hf; cases hf
  | some q =>
    obtain ⟨a, I1, J1⟩ := q
    rw [hq] at hf
    obtain ⟨g1, g2⟩ := hc a I1 J1 hq
    exact h a I1 J1 (Sm.tr h1 hI g1) (Sm.tr h2 hJ g2) r I2 J2 hf
theorem Fo.callp {σ : Type} {fc : Option σ} {F : σ → Option (τ × HI × HJ)} (h : ∀ r, Fo wi wj I0 J0 (F r)) : Fo wi wj I0 J0 (cp fc F) := by
  intro r I2 J2 hf
  cases hq : fc with
  | none => rw [hq] at hf; cases hf
  | some q => rw [hq] at hf; exact h q r I2 J2 hf
end FO

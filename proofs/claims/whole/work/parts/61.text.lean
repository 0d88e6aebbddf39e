/-! LAYER 2: clauses of the invariant and what keeps them; the text: sign, end -/
def disW (a b : Pl) : Bool := a.all (fun p => b.all (fun q => !(p.1 == q.1) || (match p.2, q.2 with | some i, some j => !(i == j) | _, _ => false)))
theorem disW_in {a b : Pl} (h : disW a b = true) {c j : Nat} (hc : inW a c j = true) : inW b c j = false := by
  cases hb : inW b c j with
  | false => rfl
  | true =>
    exfalso
    simp only [inW, List.any_eq_true] at hc hb
    obtain ⟨p, hp, h1⟩ := hc
    obtain ⟨q, hq, h2⟩ := hb
    have h3 := List.all_eq_true.mp (List.all_eq_true.mp h p hp) q hq
    obtain ⟨pc, pj⟩ := p
    obtain ⟨qc, qj⟩ := q
    simp only [Bool.and_eq_true, Bool.or_eq_true, beq_iff_eq] at h1 h2
    obtain ⟨e1, g1⟩ := h1
    obtain ⟨e2, g2⟩ := h2
    subst e1; subst e2
    cases pj with
    | none => cases qj <;> simp at h3
    | some i =>
      cases qj with
      | none => simp at h3
      | some k =>
        simp at h3 g1 g2
        omega
def Ag {α : Type} (rd : Pl) (I I' : Nat → Nat → α) : Prop := ∀ c j, inW rd c j = true → I' c j = I c j
theorem Ag.of {α : Type} {rd w : Pl} {I I' : Nat → Nat → α} (h : Sm w I I') (hd : disW rd w = true) : Ag rd I I' := fun c j hc => h c j (disW_in hd hc)
/-- the text: as many signs on both sides, each a byte of the model's -/
def CText (I : HI) : Prop := I m_self f_Model_typed = I x_text f_Text_size ∧ 0 ≤ (I x_text f_Text_size).toInt ∧ (I x_text f_Text_size).toInt ≤ 80 ∧ ∀ k : Nat, (k : Int) < (I x_text f_Text_size).toInt → I x_text_signs k = (I m_text k) &&& 255 ∧ -128 ≤ (I m_text k).toInt ∧ (I m_text k).toInt ≤ 127
def rdText : Pl := [(m_self, some f_Model_typed), (x_text, some f_Text_size), (x_text_signs, none), (m_text, none)]
theorem CText.keep {I I' : HI} (h : CText I) (a : Ag rdText I I') : CText I' := by
  obtain ⟨h1, h2, h3, h4⟩ := h
  have e1 : I' m_self f_Model_typed = I m_self f_Model_typed := a _ _ rfl
  have e2 : I' x_text f_Text_size = I x_text f_Text_size := a _ _ rfl
  refine ⟨by rw [e1, e2]; exact h1, by rw [e2]; exact h2, by rw [e2]; exact h3, fun k hk => ?_⟩
  rw [e2] at hk
  have e3 : I' x_text_signs k = I x_text_signs k := a _ _ rfl
  have e4 : I' m_text k = I m_text k := a _ _ rfl
  rw [e3, e4]
  exact h4 k hk
theorem l_lt {x y : Int64} : x < y ↔ x.toInt < y.toInt := Int64.lt_iff_toInt_lt
theorem l_le {x y : Int64} : x ≤ y ↔ x.toInt ≤ y.toInt := Int64.le_iff_toInt_le
theorem l_i (x : Int32) : (Int32.toInt64 x).toInt = x.toInt := Int32.toInt_toInt64 x
theorem in_spec (a b c : Int64) : F_X12_in a b c = some (if b.toInt ≤ a.toInt ∧ a.toInt ≤ c.toInt then 1 else 0) := by
  unfold F_X12_in
  simp only [lg_cmp_lt, lg_cmp_gt, l_lt]
  repeat' split
  all_goals first | rfl | (exfalso; omega)
theorem i_0 : (0 : Int32).toInt = 0 := by decide
theorem l_0 : (0 : Int64).toInt = 0 := by decide
-- end
theorem X11_end_eq (n : Int32) (I : HI) (J : HJ) : F_X11_end n I J = if 0 ≤ n.toInt ∧ n.toInt ≤ (I x_text f_Text_size).toInt then some (1, ui I x_text f_Text_size n, J) else some (0, I, J) := by
  unfold F_X11_end
  simp only [lb, i_lt, i_le, i_0]
  repeat' split
  all_goals first | rfl | (exfalso; omega)
theorem X12_end_eq (n : Int32) (I : HI) (J : HJ) : F_X12_end n I J = if 0 ≤ n.toInt ∧ n.toInt ≤ (I m_self f_Model_typed).toInt then some (1, ui (ui I m_self f_Model_thrown 0) m_self f_Model_typed n, J) else some (0, ui I m_self f_Model_thrown 0, J) := by
  unfold F_X12_end
  have e : ui I m_self f_Model_thrown 0 m_self f_Model_typed = I m_self f_Model_typed := ui_j (by decide)
  simp only [lb, in_spec, cp, Option.bind_some, l_i, l_0, e]
  repeat' split
  all_goals first | rfl | (exfalso; omega) | (exfalso; simp_all)
theorem Ok.eq {α : Type} {f : Option α} {a : α} (h : f = some a) : Ok f (fun q => q = a) := ⟨a, h, rfl⟩
/-- both sides answer alike -/
theorem both {τ : Type} {fX : Option (τ × HI × HJ)} {fM : HI → HJ → Option (τ × HI × HJ)} {P : τ × HI × HJ → Prop} {Q : HI → HJ → Prop} (hX : Ok fX P) (hM : ∀ r I1 J1, fX = some (r, I1, J1) → P (r, I1, J1) → Ok (fM I1 J1) (fun q => q.1 = r ∧ Q q.2.1 q.2.2)) : ∃ r I1 J1 I2 J2, fX = some (r, I1, J1) ∧ fM I1 J1 = some (r, I2, J2) ∧ Q I2 J2 := by
  obtain ⟨⟨r, I1, J1⟩, h1, h2⟩ := hX
  obtain ⟨⟨r', I2, J2⟩, g1, g2, g3⟩ := hM r I1 J1 h1 h2
  exact ⟨r, I1, J1, I2, J2, h1, by rw [g1]; exact congrArg (fun z => some (z, I2, J2)) g2, g3⟩
theorem O1 (n : Int32) (I : HI) (J : HJ) (h : CText I) : ∃ r I1 J1 I2 J2, F_X11_end n I J = some (r, I1, J1) ∧ F_X12_end n I1 J1 = some (r, I2, J2) ∧ CText I2 := by
  obtain ⟨h1, h2, h3, h4⟩ := h
  by_cases c : 0 ≤ n.toInt ∧ n.toInt ≤ (I x_text f_Text_size).toInt
  · have e : ui I x_text f_Text_size n m_self f_Model_typed = I x_text f_Text_size := by rw [ui_c (by decide)]; exact h1
    refine both (Q := fun I _ => CText I) (Ok.eq ((X11_end_eq n I J).trans (if_pos c))) (fun r I1 J1 _ hq => ?_)
    cases hq
    refine (Ok.eq ((X12_end_eq n _ J).trans (if_pos (by rw [e]; exact c)))).mono (fun q hq => ?_)
    subst hq
    refine ⟨rfl, ?_⟩
    show CText (ui (ui (ui I x_text f_Text_size n) m_self f_Model_thrown 0) m_self f_Model_typed n)
    have g2 : ui (ui (ui I x_text f_Text_size n) m_self f_Model_thrown 0) m_self f_Model_typed n x_text f_Text_size = n := by
      rw [ui_c (by decide), ui_c (by decide), ui_r]
    refine ⟨by rw [ui_r, g2], by rw [g2]; exact c.1, by rw [g2]; omega, fun k hk => ?_⟩
    rw [g2] at hk
    rw [ui_c (by decide), ui_c (by decide), ui_c (by decide), ui_c (by decide), ui_c (by decide), ui_c (by decide)]
    exact h4 k (by omega)
  · refine both (Q := fun I _ => CText I) (Ok.eq ((X11_end_eq n I J).trans (if_neg c))) (fun r I1 J1 _ hq => ?_)
    cases hq
    refine (Ok.eq ((X12_end_eq n I J).trans (if_neg (by rw [h1]; exact c)))).mono (fun q hq => ?_)
    subst hq
    exact ⟨rfl, CText.keep ⟨h1, h2, h3, h4⟩ (Ag.of (w := [(m_self, some f_Model_thrown)]) (Sm.mi rfl Sm.rf) (by decide))⟩

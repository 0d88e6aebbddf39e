/-! LAYER 2: board: the reference reads -/
def tcM (cd : Nat → Nat) (sz : Nat) (I : HI) : Prop := sz ≤ 80 ∧ I m_self f_Model_size = nI sz ∧ (∀ k, cd k < 256) ∧ ∀ k, k < sz → (cd k < 128 → I m_text k = nI (cd k)) ∧ (128 ≤ cd k → (I m_text k).toInt < 0)
theorem tcM.keep {cd : Nat → Nat} {sz : Nat} {I I' : HI} (h : tcM cd sz I) (a : Ag [(m_self, some f_Model_size), (m_text, none)] I I') : tcM cd sz I' := ⟨h.1, by rw [a _ _ rfl]; exact h.2.1, h.2.2.1, fun k hk => by rw [a _ _ rfl]; exact h.2.2.2 k hk⟩
def SM (st : Nat ⊕ Nat) (I : HI) : Prop := match st with | Sum.inl e => e ≤ 80 ∧ I m_self f_Model_wrong = nI e | Sum.inr a => a ≤ 76 ∧ I m_self f_Model_wrong = -1 ∧ I m_self f_Model_at = nI a
theorem SM.keep {st : Nat ⊕ Nat} {I I' : HI} (h : SM st I) (a : Ag [(m_self, some f_Model_wrong), (m_self, some f_Model_at)] I I') : SM st I' := by
  cases st with
  | inl e => exact ⟨h.1, by rw [a _ _ rfl]; exact h.2⟩
  | inr b => exact ⟨h.1, by rw [a _ _ rfl]; exact h.2.1, by rw [a _ _ rfl]; exact h.2.2⟩
abbrev mnW : Pl := [(m_self, some f_Model_at), (m_self, some f_Model_wrong)]
theorem X12_here {cd : Nat → Nat} {sz a : Nat} (ha : a ≤ 78) {I : HI} {J : HJ} (ht : tcM cd sz I) (h : I m_self f_Model_at = nI a) : F_X12_here I J = some (if a < min sz 76 then I m_text a else -1) := by
  have h80 := ht.1
  unfold F_X12_here
  rw [ht.2.1, h]
  by_cases c : sz ≤ a
  · rw [if_pos (by rw [n_le] <;> omega), if_neg (by omega)]
  · rw [if_neg (by rw [n_le] <;> omega)]
    by_cases d : 76 ≤ a
    · rw [if_pos (show (76 : Int32) ≤ nI a from (by rw [n_le (by omega) (by omega)]; exact d : nI 76 ≤ nI a)), if_neg (by omega)]
    · rw [if_neg (show ¬ (76 : Int32) ≤ nI a from (by rw [n_le (by omega) (by omega)]; exact d : ¬ nI 76 ≤ nI a)), n_bx (by omega) (by omega), n_cl (by omega), if_pos (by omega)]
theorem here_c {cd : Nat → Nat} {sz a c : Nat} (hc : c < 128) {I : HI} (ht : tcM cd sz I) : ((if a < min sz 76 then I m_text a else -1) = nI c) ↔ isC cd (min sz 76) a c = true := by
  have hcd := ht.2.2.1 a
  unfold isC
  rw [decide_eq_true_eq]
  by_cases d : a < min sz 76
  · rw [if_pos d]
    obtain ⟨g1, g2⟩ := ht.2.2.2 a (by omega)
    by_cases e : cd a < 128
    · rw [g1 e, n_eq (by omega) (by omega)]
      exact ⟨fun h => ⟨d, h⟩, fun h => h.2⟩
    · constructor
      · intro h
        have := g2 (by omega)
        rw [h, n_int (by omega)] at this; omega
      · intro h; omega
  · rw [if_neg d]
    exact ⟨fun h => ((n_ne1' (a := c) (by omega)).mp h).elim, fun h => absurd h.1 d⟩
theorem X12_passes_t {cd : Nat → Nat} {sz a c : Nat} (ha : a ≤ 76) (hc : c < 128) {I : HI} {J : HJ} (ht : tcM cd sz I) (hw : I m_self f_Model_wrong = -1) (h : I m_self f_Model_at = nI a) (hi : isC cd (min sz 76) a c = true) : F_X12_passes (nI c) I J = some (1, ui I m_self f_Model_at (nI (a + 1)), J) := by
  unfold F_X12_passes
  rw [if_pos hw, X12_here (by omega) ht h]
  show (if (if a < min sz 76 then I m_text a else -1) = nI c then _ else _) = _
  rw [if_pos ((here_c hc ht).mpr hi), h, nI_1]
  rfl
theorem X12_passes_f {cd : Nat → Nat} {sz a c : Nat} (ha : a ≤ 76) (hc : c < 128) {I : HI} {J : HJ} (ht : tcM cd sz I) (hw : I m_self f_Model_wrong = -1) (h : I m_self f_Model_at = nI a) (hi : isC cd (min sz 76) a c = false) : F_X12_passes (nI c) I J = some (0, I, J) := by
  unfold F_X12_passes
  rw [if_pos hw, X12_here (by omega) ht h]
  show (if (if a < min sz 76 then I m_text a else -1) = nI c then _ else _) = _
  rw [if_neg (fun e => by have := (here_c hc ht).mp e; rw [hi] at this; cases this)]
theorem n_ne1l {a : Nat} (h : a < 2147483648) : ¬ nI a = (-1 : Int32) := fun e => (n_ne1 (a := a) h).mp e
theorem X12_passes_w {e : Nat} (he : e ≤ 80) {c : Int32} {I : HI} {J : HJ} (hw : I m_self f_Model_wrong = nI e) : F_X12_passes c I J = some (0, I, J) := by
  unfold F_X12_passes
  rw [hw, if_neg (n_ne1l (by omega))]
theorem X12_fault_w {e : Nat} (he : e ≤ 80) {c : Int32} {I : HI} {J : HJ} (hw : I m_self f_Model_wrong = nI e) : F_X12_fault c I J = some ((), I, J) := by
  unfold F_X12_fault
  rw [hw, if_neg (n_ne1l (by omega))]
theorem X12_fault_n {c : Int32} {I : HI} {J : HJ} (hw : I m_self f_Model_wrong = -1) : F_X12_fault c I J = some ((), ui I m_self f_Model_wrong c, J) := by
  unfold F_X12_fault
  rw [if_pos hw]; rfl
def ndM (cd : Nat → Nat) (lim c : Nat) (st : Nat ⊕ Nat) : Nat ⊕ Nat := bdS st (ndS cd lim c)
theorem X12_need {cd : Nat → Nat} {sz c : Nat} (hc : c < 128) {st : Nat ⊕ Nat} (I : HI) (J : HJ) (ht : tcM cd sz I) (hs : SM st I) : Ok (F_X12_need (nI c) I J) (fun q => q.2.2 = J ∧ Sm mnW I q.2.1 ∧ SM (ndM cd (min sz 76) c st) q.2.1) := by
  unfold F_X12_need ndM
  cases st with
  | inl e =>
    refine Ok.cle (X12_passes_w hs.1 hs.2) (Ok.t rfl (Ok.cle (X12_fault_w hs.1 hs.2) (Ok.mk ⟨rfl, Sm.rf, hs⟩)))
  | inr a =>
    obtain ⟨ha, hw, h⟩ := hs
    simp only [bdS, ndS]
    cases hi : isC cd (min sz 76) a c with
    | true =>
      have hlt := (of_decide_eq_true hi).1
      refine Ok.cle (X12_passes_t ha hc ht hw h hi) (Ok.f (by decide) (Ok.mk ⟨rfl, Sm.mi rfl Sm.rf, ?_⟩))
      exact ⟨by omega, by dsimp only; rw [ui_j (by decide)]; exact hw, by dsimp only; rw [ui_r]⟩
    | false =>
      refine Ok.cle (X12_passes_f ha hc ht hw h hi) (Ok.t rfl (Ok.cle (X12_fault_n hw) (Ok.mk ⟨rfl, Sm.mi rfl Sm.rf, ?_⟩)))
      exact ⟨by omega, by dsimp only; rw [ui_r, h]⟩
def valS (s : Nat ⊕ (Nat × Nat)) : Nat := match s with | Sum.inl _ => 0 | Sum.inr n => n.1
def atS (s : Nat ⊕ (Nat × Nat)) : Nat ⊕ Nat := match s with | Sum.inl e => Sum.inl e | Sum.inr n => Sum.inr n.2
theorem in_dg {cd : Nat → Nat} {sz a : Nat} {I : HI} (ht : tcM cd sz I) : F_X12_in (Int32.toInt64 (if a < min sz 76 then I m_text a else -1)) (48 : Int64) (57 : Int64) = some (b1 (dgS cd (min sz 76) a).isSome) := by
  have hcd := ht.2.2.1 a
  show F_X12_in _ (lN 48) (lN 57) = _
  rw [in_spec, l_i, L_int (by omega), L_int (by omega)]
  unfold dgS
  by_cases d : a < min sz 76
  · rw [if_pos d]
    obtain ⟨g1, g2⟩ := ht.2.2.2 a (by omega)
    by_cases e : cd a < 128
    · rw [g1 e, n_int (by omega)]
      by_cases f : 48 ≤ cd a ∧ cd a ≤ 57
      · rw [if_pos (by omega), if_pos ⟨d, f⟩]; rfl
      · rw [if_neg (by omega), if_neg (fun hh => f hh.2)]; rfl
    · have := g2 (by omega)
      rw [if_neg (by omega), if_neg (fun hh => by omega)]; rfl
  · rw [if_neg d, if_neg (by decide), if_neg (fun hh => d hh.1)]; rfl
theorem X12_num {cd : Nat → Nat} {sz k lo hi a : Nat} (hk : k = 1 ∨ k = 2) (hlo : lo < 1000) (hhi : hi < 1000) (I : HI) (J : HJ) (ht : tcM cd sz I) (ha : a ≤ 76) (hw : I m_self f_Model_wrong = -1) (h : I m_self f_Model_at = nI a) : Ok (F_X12_number (nI k) (nI lo) (nI hi) I J) (fun q => q.2.2 = J ∧ Sm mnW I q.2.1 ∧ SM (atS (nuS cd (min sz 76) k lo hi a)) q.2.1 ∧ q.1 = nI (valS (nuS cd (min sz 76) k lo hi a))) := by
  have h80 := ht.1
  unfold F_X12_number
  refine Ok.t hw (Ok.lbv ?_)
  rw [h]
  have fin : ∀ v b I', a < b → v < 1000 → b ≤ 77 → Sm mnW I I' → I' m_self f_Model_wrong = -1 → I' m_self f_Model_at = nI b → (b ≤ 76 ∨ ¬ (lo ≤ v ∧ v ≤ hi)) → Ok (lb (fun (I12 : HI) (J13 : HJ) => if (I12 m_self f_Model_wrong) = (-1 : Int32) then some (nI v, I12, J13) else some ((0 : Int32), I12, J13)) fun j14 => if (I' m_self f_Model_at) = nI a then cl (F_X12_fault (I' m_self f_Model_at) I' J) fun _ I18 J19 => j14 I18 J19 else cp (F_X12_in (Int32.toInt64 (nI v)) (Int32.toInt64 (nI lo)) (Int32.toInt64 (nI hi))) fun r15 => if r15 = 0 then cl (F_X12_fault ((I' m_self f_Model_at) - (1 : Int32)) I' J) fun _ I16 J17 => j14 I16 J17 else j14 I' J) (fun q => q.2.2 = J ∧ Sm mnW I q.2.1 ∧ SM (atS (rgN lo hi v b (b - 1))) q.2.1 ∧ q.1 = nI (valS (rgN lo hi v b (b - 1)))) := by
    intro v b I' hab hv hb s1 s2 s3 hor
    refine Ok.lbv ?_
    rw [s3]
    refine Ok.f (by rw [n_eq] <;> omega) ?_
    have hin : F_X12_in (Int32.toInt64 (nI v)) (Int32.toInt64 (nI lo)) (Int32.toInt64 (nI hi)) = some (if lo ≤ v ∧ v ≤ hi then 1 else 0) := by
      rw [in_spec, l_i, l_i, l_i, n_int (by omega), n_int (by omega), n_int (by omega)]
      by_cases c : lo ≤ v ∧ v ≤ hi
      · rw [if_pos c, if_pos (by omega)]
      · rw [if_neg c, if_neg (by omega)]
    refine Ok.cpe hin ?_
    by_cases c : lo ≤ v ∧ v ≤ hi
    · rw [if_pos c]
      have e : rgN lo hi v b (b - 1) = Sum.inr (v, b) := if_pos c
      rw [e]
      exact Ok.f (by decide) (Ok.t s2 (Ok.mk ⟨rfl, s1, ⟨by omega, s2, s3⟩, rfl⟩))
    · rw [if_neg c]
      have e : rgN lo hi v b (b - 1) = Sum.inl (b - 1) := if_neg c
      rw [e, show (1 : Int32) = nI 1 from rfl, n_sub (by omega)]
      refine Ok.t rfl (Ok.cle (X12_fault_n s2) ?_)
      dsimp only
      rw [ui_r]
      exact Ok.f (fun e => (n_ne1 (a := b - 1) (by omega)).mp e) (Ok.mk ⟨rfl, Sm.mi rfl s1, ⟨by omega, by dsimp only; rw [ui_r]⟩, rfl⟩)
  show Ok (F_X12_number_L19 (nI k) (nI lo) (nI hi) (nI a) J _ (999997 + 1 + 1 + 1) 0 I) _
  rw [F_X12_number_L19]
  rw [h, nI_add]
  refine Ok.f (by rw [n_le] <;> omega) (Ok.cpe (X12_here (by omega) ht h) (Ok.cpe (in_dg ht) ?_))
  unfold nuS
  cases hd : dgS cd (min sz 76) a with
  | none =>
    refine Ok.t rfl (Ok.lbv ?_)
    refine Ok.t rfl (Ok.cle (X12_fault_n hw) ?_)
    dsimp only
    rw [ui_r]
    exact Ok.f (n_ne1l (by omega)) (Ok.mk ⟨rfl, Sm.mi rfl Sm.rf, ⟨by omega, by dsimp only; rw [ui_r]⟩, rfl⟩)
  | some d =>
    obtain ⟨d1, d2, d3, d4⟩ := dgS_s hd
    have hta : I m_text a = nI (cd a) := (ht.2.2.2 a (by omega)).1 (by omega)
    refine Ok.f (show ¬ b1 true = 0 by decide) (Ok.cpe (X12_here (by omega) ht h) (Ok.lbv (Ok.lbv ?_)))
    rw [if_pos d1, hta, show (10 : Int32) * 0 = nI 0 by decide, show (48 : Int32) = nI 48 from rfl, nI_add, n_sub (by omega), show 0 + cd a - 48 = d by omega, nI_1]
    have s7 : Sm mnW I (ui I m_self f_Model_at (nI (a + 1))) := Sm.mi rfl Sm.rf
    have ht7 : tcM cd sz (ui I m_self f_Model_at (nI (a + 1))) := ht.keep (Ag.of s7 (by decide))
    have w7 : ui I m_self f_Model_at (nI (a + 1)) m_self f_Model_wrong = -1 := by rw [ui_j (by decide)]; exact hw
    have a7 : ui I m_self f_Model_at (nI (a + 1)) m_self f_Model_at = nI (a + 1) := ui_r
    rw [F_X12_number_L19, a7, nI_add]
    rcases hk with hk | hk
    · subst hk
      rw [if_neg (by decide : ¬ (1 = 2))]
      have := fin d (a + 1) _ (by omega) (by omega) (by omega) s7 w7 a7 (Or.inl (by omega))
      exact Ok.t (by rw [n_le] <;> omega) this
    · subst hk
      rw [if_pos rfl]
      refine Ok.f (by rw [n_le] <;> omega) (Ok.cpe (X12_here (by omega) ht7 a7) (Ok.cpe (in_dg ht7) ?_))
      cases he : dgS cd (min sz 76) (a + 1) with
      | none =>
        have := fin d (a + 1) _ (by omega) (by omega) (by omega) s7 w7 a7 (Or.inl (by omega))
        exact Ok.t rfl this
      | some e =>
        obtain ⟨e1, e2, e3, e4⟩ := dgS_s he
        have htb : ui I m_self f_Model_at (nI (a + 1)) m_text (a + 1) = nI (cd (a + 1)) := (ht7.2.2.2 (a + 1) (by omega)).1 (by omega)
        refine Ok.f (show ¬ b1 true = 0 by decide) (Ok.cpe (X12_here (by omega) ht7 a7) (Ok.lbv (Ok.lbv ?_)))
        rw [if_pos e1, htb, show (10 : Int32) = nI 10 from rfl, show (48 : Int32) = nI 48 from rfl, n_mul, nI_add, n_sub (by omega), show 10 * d + cd (a + 1) - 48 = 10 * d + e by omega, nI_1]
        rw [F_X12_number_L19, ui_r, nI_add]
        have := fin (10 * d + e) (a + 2) (ui (ui I m_self f_Model_at (nI (a + 1))) m_self f_Model_at (nI (a + 1 + 1))) (by omega) (by omega) (by omega) (Sm.mi rfl s7) (by rw [ui_j (by decide)]; exact w7) (by rw [ui_r]) (Or.inl (by omega))
        exact Ok.t (by rw [n_le] <;> omega) this
def nuM (cd : Nat → Nat) (lim k lo hi : Nat) (st : Nat ⊕ Nat) : Nat ⊕ (Nat × Nat) := bdS st (nuS cd lim k lo hi)
theorem X12_number {cd : Nat → Nat} {sz k lo hi : Nat} (hk : k = 1 ∨ k = 2) (hlo : lo < 1000) (hhi : hi < 1000) {st : Nat ⊕ Nat} (I : HI) (J : HJ) (ht : tcM cd sz I) (hs : SM st I) : Ok (F_X12_number (nI k) (nI lo) (nI hi) I J) (fun q => q.2.2 = J ∧ Sm mnW I q.2.1 ∧ SM (atS (nuM cd (min sz 76) k lo hi st)) q.2.1 ∧ q.1 = nI (valS (nuM cd (min sz 76) k lo hi st))) := by
  cases st with
  | inl e =>
    unfold F_X12_number
    refine Ok.f (by rw [hs.2]; exact n_ne1l (by have := hs.1; omega)) (Ok.mk ⟨rfl, Sm.rf, hs, rfl⟩)
  | inr a => exact X12_num hk hlo hhi I J ht hs.1 hs.2.1 hs.2.2
theorem nuS_1 {cd : Nat → Nat} {lim lo hi a v b : Nat} (h : nuS cd lim 1 lo hi a = Sum.inr (v, b)) : b = a + 1 := by
  unfold nuS at h
  cases hd : dgS cd lim a with
  | none => rw [hd] at h; cases h
  | some d =>
    rw [hd] at h
    simp only at h
    rw [if_neg (by decide : ¬ (1 = 2))] at h
    exact (rgN_r h).2.2.2
/-- the lamp's line, step by step, refusals carried on -/
def eqM (x : Nat) (s : Nat ⊕ (Nat × Nat)) : Nat ⊕ Nat := bdS s (fun y => if x = y.1 then Sum.inl (y.2 - 1) else Sum.inr y.2)
theorem lnS_lamp {cd : Nat → Nat} {lim wd lm a : Nat} (c1 : isC cd lim a 119 = false) (c2 : isC cd lim a 114 = false) {s0 : Nat ⊕ Nat} (h0 : s0 = if lm = 60 then Sum.inl a else Sum.inr a) {n1 n2 n3 : Nat ⊕ (Nat × Nat)} (h1 : n1 = nuM cd lim 1 0 (wd - 1) s0) (h2 : n2 = nuM cd lim 1 0 (wd - 1) (ndM cd lim 62 (atS n1))) (h3 : n3 = nuM cd lim 2 1 9 (ndM cd lim 42 (eqM (valS n1) n2))) : lnS cd lim wd lm a = bdS n3 (fun n => Sum.inr ((2, valS n1, valS n2, n.1), n.2)) := by
  unfold lnS
  rw [c1, c2, if_neg (by decide), if_neg (by decide)]
  by_cases c3 : lm = 60
  · rw [if_pos c3] at h0 ⊢
    subst h0 h1 h2 h3; rfl
  · rw [if_neg c3] at h0 ⊢
    subst h0
    cases e1 : nuS cd lim 1 0 (wd - 1) a with
    | inl e => 
      have h1' : n1 = Sum.inl e := by rw [h1]; exact e1
      subst h1'; subst h2 h3; rfl
    | inr n =>
      obtain ⟨x, a2⟩ := n
      have h1' : n1 = Sum.inr (x, a2) := by rw [h1]; exact e1
      subst h1'
      simp only [bdS]
      cases e2 : ndS cd lim 62 a2 with
      | inl e =>
        have h2' : n2 = Sum.inl e := by rw [h2]; show bdS (ndS cd lim 62 a2) _ = _; rw [e2]; rfl
        subst h2'; subst h3; rfl
      | inr a3 =>
        have h2' : n2 = nuS cd lim 1 0 (wd - 1) a3 := by rw [h2]; show bdS (ndS cd lim 62 a2) _ = _; rw [e2]; rfl
        simp only
        cases e3 : nuS cd lim 1 0 (wd - 1) a3 with
        | inl e =>
          rw [e3] at h2'
          subst h2'; subst h3; rfl
        | inr n =>
          obtain ⟨y, a4⟩ := n
          have hb := nuS_1 e3
          rw [e3] at h2'
          subst h2'
          simp only
          by_cases c4 : y = x
          · rw [if_pos c4]
            have h3' : n3 = Sum.inl a3 := by
              rw [h3]
              show bdS (bdS (if x = y then Sum.inl (a4 - 1) else Sum.inr a4) _) _ = _
              rw [if_pos c4.symm, hb]; rfl
            subst h3'; rfl
          · rw [if_neg c4]
            have h3' : n3 = bdS (ndS cd lim 42 a4) (nuS cd lim 2 1 9) := by
              rw [h3]
              show bdS (bdS (if x = y then Sum.inl (a4 - 1) else Sum.inr a4) _) _ = _
              rw [if_neg (fun e => c4 e.symm)]; rfl
            rw [h3']
            cases e4 : ndS cd lim 42 a4 with
            | inl e => rfl
            | inr a5 =>
              simp only [bdS, valS]
theorem lnS_ohm {cd : Nat → Nat} {lim wd lm a : Nat} (c1 : isC cd lim a 119 = false) (c2 : isC cd lim a 114 = true) {n1 n2 : Nat ⊕ (Nat × Nat)} (h1 : n1 = nuM cd lim 1 0 (wd - 1) (Sum.inr (a + 1))) (h2 : n2 = nuM cd lim 2 0 4 (ndM cd lim 44 (atS n1))) : lnS cd lim wd lm a = bdS n2 (fun n => Sum.inr ((1, valS n1, 0, n.1), n.2)) := by
  unfold lnS
  rw [c1, c2, if_neg (by decide), if_pos rfl]
  cases e1 : nuS cd lim 1 0 (wd - 1) (a + 1) with
  | inl e =>
    have h1' : n1 = Sum.inl e := by rw [h1]; exact e1
    subst h1'; subst h2; rfl
  | inr n =>
    obtain ⟨x, a2⟩ := n
    have h1' : n1 = Sum.inr (x, a2) := by rw [h1]; exact e1
    subst h1'
    have h2' : n2 = bdS (ndS cd lim 44 a2) (nuS cd lim 2 0 4) := h2
    rw [h2']
    simp only [bdS]
    cases e2 : ndS cd lim 44 a2 with
    | inl e => rfl
    | inr a3 => simp only [valS]

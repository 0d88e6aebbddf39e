/-! LAYER 2: board: what a text says, and the class's reader -/
def dgS (cd : Nat → Nat) (lim k : Nat) : Option Nat := if k < lim ∧ 48 ≤ cd k ∧ cd k ≤ 57 then some (cd k - 48) else none
def rgN (lo hi v a e : Nat) : Nat ⊕ (Nat × Nat) := if lo ≤ v ∧ v ≤ hi then Sum.inr (v, a) else Sum.inl e
def nuS (cd : Nat → Nat) (lim k lo hi a : Nat) : Nat ⊕ (Nat × Nat) := match dgS cd lim a with
  | none => Sum.inl a
  | some d => match (if k = 2 then dgS cd lim (a + 1) else none) with
    | none => rgN lo hi d (a + 1) a
    | some e => rgN lo hi (10 * d + e) (a + 2) (a + 1)
def isC (cd : Nat → Nat) (lim a c : Nat) : Bool := decide (a < lim ∧ cd a = c)
def ndS (cd : Nat → Nat) (lim c a : Nat) : Nat ⊕ Nat := if isC cd lim a c then Sum.inr (a + 1) else Sum.inl a
def bdS {α β : Type} (s : Nat ⊕ α) (f : α → Nat ⊕ β) : Nat ⊕ β := match s with | Sum.inl e => Sum.inl e | Sum.inr a => f a
abbrev Ln : Type := Nat × Nat × Nat × Nat
/-- a line: what it is, and where it ends -/
def lnS (cd : Nat → Nat) (lim wd lm a : Nat) : Nat ⊕ (Ln × Nat) :=
  if isC cd lim a 119 then bdS (nuS cd lim 2 2 10 (a + 1)) (fun n => Sum.inr ((0, 0, 0, n.1), n.2))
  else if isC cd lim a 114 then bdS (nuS cd lim 1 0 (wd - 1) (a + 1)) (fun x => bdS (ndS cd lim 44 x.2) (fun b => bdS (nuS cd lim 2 0 4 b) (fun n => Sum.inr ((1, x.1, 0, n.1), n.2))))
  else if lm = 60 then Sum.inl a
  else bdS (nuS cd lim 1 0 (wd - 1) a) (fun x => bdS (ndS cd lim 62 x.2) (fun b => bdS (nuS cd lim 1 0 (wd - 1) b) (fun y => if y.1 = x.1 then Sum.inl b else bdS (ndS cd lim 42 y.2) (fun c => bdS (nuS cd lim 2 1 9 c) (fun n => Sum.inr ((2, x.1, y.1, n.1), n.2))))))
def wdN (l : Ln) (wd : Nat) : Nat := if l.1 = 0 then l.2.2.2 else wd
def lmN (l : Ln) (lm : Nat) : Nat := if l.1 = 0 then 0 else if l.1 = 2 then lm + 1 else lm
/-- all lines -/
def rdS (cd : Nat → Nat) (lim : Nat) : Nat → Nat → Nat → Nat → List Ln → Nat ⊕ (List Ln)
  | 0, a, _, _, _ => Sum.inl a
  | K+1, a, wd, lm, acc => match lnS cd lim wd lm a with
    | Sum.inl e => Sum.inl e
    | Sum.inr (l, b) => if lim ≤ b then Sum.inr (acc ++ [l]) else if isC cd lim b 59 then rdS cd lim K (b + 1) (wdN l wd) (lmN l lm) (acc ++ [l]) else Sum.inl b
theorem dgS_n {cd : Nat → Nat} {lim a : Nat} (h : dgS cd lim a = none) : ¬ (a < lim ∧ 48 ≤ cd a ∧ cd a ≤ 57) := fun c => by
  unfold dgS at h; rw [if_pos c] at h; cases h
theorem dgS_s {cd : Nat → Nat} {lim a d : Nat} (h : dgS cd lim a = some d) : a < lim ∧ 48 ≤ cd a ∧ cd a ≤ 57 ∧ d = cd a - 48 := by
  unfold dgS at h
  by_cases c : a < lim ∧ 48 ≤ cd a ∧ cd a ≤ 57
  · rw [if_pos c] at h; injection h with h; exact ⟨c.1, c.2.1, c.2.2, h.symm⟩
  · rw [if_neg c] at h; cases h
/-- what a number says when it is one -/
theorem rgN_r {lo hi v a e x b : Nat} (h : rgN lo hi v a e = Sum.inr (x, b)) : lo ≤ v ∧ v ≤ hi ∧ x = v ∧ b = a := by
  unfold rgN at h
  by_cases c : lo ≤ v ∧ v ≤ hi
  · rw [if_pos c] at h; injection h with h; injection h with h1 h2; exact ⟨c.1, c.2, h1.symm, h2.symm⟩
  · rw [if_neg c] at h; cases h
theorem nuS_r {cd : Nat → Nat} {lim k lo hi a v b : Nat} (h : nuS cd lim k lo hi a = Sum.inr (v, b)) : lo ≤ v ∧ v ≤ hi ∧ a + 1 ≤ b ∧ b ≤ lim := by
  unfold nuS at h
  cases hd : dgS cd lim a with
  | none => rw [hd] at h; cases h
  | some d =>
    have h1 := dgS_s hd
    rw [hd] at h
    cases he : (if k = 2 then dgS cd lim (a + 1) else none) with
    | none =>
      rw [he] at h
      obtain ⟨g1, g2, g3, g4⟩ := rgN_r h
      omega
    | some e =>
      rw [he] at h
      obtain ⟨g1, g2, g3, g4⟩ := rgN_r h
      by_cases c : k = 2
      · rw [if_pos c] at he
        have h2 := dgS_s he
        omega
      · rw [if_neg c] at he; cases he
theorem ndS_r {cd : Nat → Nat} {lim c a b : Nat} (h : ndS cd lim c a = Sum.inr b) : b = a + 1 ∧ a < lim ∧ isC cd lim a c = true := by
  unfold ndS at h
  by_cases d : isC cd lim a c = true
  · rw [if_pos d] at h
    injection h with h
    exact ⟨h.symm, (of_decide_eq_true d).1, d⟩
  · rw [if_neg d] at h; cases h
theorem ndS_l {cd : Nat → Nat} {lim c a e : Nat} (h : ndS cd lim c a = Sum.inl e) : e = a ∧ isC cd lim a c = false := by
  unfold ndS at h
  by_cases d : isC cd lim a c = true
  · rw [if_pos d] at h; cases h
  · rw [if_neg d] at h
    injection h with h
    exact ⟨h.symm, by simpa using d⟩
/-- lines are right -/
def lnOk (wd lm : Nat) (l : Ln) : Prop := (l.1 = 0 ∧ 2 ≤ l.2.2.2 ∧ l.2.2.2 ≤ 10) ∨ (l.1 = 1 ∧ l.2.1 < wd ∧ l.2.2.2 ≤ 4) ∨ (l.1 = 2 ∧ lm < 60 ∧ l.2.1 < wd ∧ l.2.2.1 < wd ∧ l.2.1 ≠ l.2.2.1 ∧ 1 ≤ l.2.2.2 ∧ l.2.2.2 ≤ 9)
theorem lnS_r {cd : Nat → Nat} {lim wd lm a b : Nat} {l : Ln} (hw : 0 < wd) (hlm : lm ≤ 60) (h : lnS cd lim wd lm a = Sum.inr (l, b)) : lnOk wd lm l ∧ a + 2 ≤ b ∧ b ≤ lim := by
  unfold lnS at h
  by_cases c1 : isC cd lim a 119 = true
  · rw [if_pos c1] at h
    cases hn : nuS cd lim 2 2 10 (a + 1) with
    | inl e => rw [hn] at h; cases h
    | inr n =>
      obtain ⟨v, b'⟩ := n
      rw [hn] at h
      injection h with h
      injection h with h1 h2
      have := nuS_r hn
      simp only at h1 h2
      subst h1 h2
      exact ⟨Or.inl ⟨rfl, by dsimp only; omega, by dsimp only; omega⟩, by omega, by omega⟩
  · rw [if_neg c1] at h
    by_cases c2 : isC cd lim a 114 = true
    · rw [if_pos c2] at h
      cases hn : nuS cd lim 1 0 (wd - 1) (a + 1) with
      | inl e => rw [hn] at h; cases h
      | inr n =>
        obtain ⟨x, a2⟩ := n
        rw [hn] at h
        simp only [bdS] at h
        cases hc : ndS cd lim 44 a2 with
        | inl e => rw [hc] at h; cases h
        | inr a3 =>
          rw [hc] at h
          simp only at h
          cases hm : nuS cd lim 2 0 4 a3 with
          | inl e => rw [hm] at h; cases h
          | inr n =>
            obtain ⟨v, b'⟩ := n
            rw [hm] at h
            injection h with h
            injection h with h1 h2
            have g1 := nuS_r hn
            have g2 := ndS_r hc
            have g3 := nuS_r hm
            simp only at h1 h2
            subst h1 h2
            exact ⟨Or.inr (Or.inl ⟨rfl, by dsimp only; omega, by dsimp only; omega⟩), by omega, by omega⟩
    · rw [if_neg c2] at h
      by_cases c3 : lm = 60
      · rw [if_pos c3] at h; cases h
      · rw [if_neg c3] at h
        cases hn : nuS cd lim 1 0 (wd - 1) a with
        | inl e => rw [hn] at h; cases h
        | inr n =>
          obtain ⟨x, a2⟩ := n
          rw [hn] at h
          simp only [bdS] at h
          cases hc : ndS cd lim 62 a2 with
          | inl e => rw [hc] at h; cases h
          | inr a3 =>
            rw [hc] at h
            simp only at h
            cases hm : nuS cd lim 1 0 (wd - 1) a3 with
            | inl e => rw [hm] at h; cases h
            | inr n =>
              obtain ⟨y, a4⟩ := n
              rw [hm] at h
              simp only at h
              by_cases c4 : y = x
              · rw [if_pos c4] at h; cases h
              · rw [if_neg c4] at h
                cases hc2 : ndS cd lim 42 a4 with
                | inl e => rw [hc2] at h; cases h
                | inr a5 =>
                  rw [hc2] at h
                  simp only at h
                  cases hm2 : nuS cd lim 2 1 9 a5 with
                  | inl e => rw [hm2] at h; cases h
                  | inr n =>
                    obtain ⟨v, b'⟩ := n
                    rw [hm2] at h
                    injection h with h
                    injection h with h1 h2
                    have g1 := nuS_r hn
                    have g2 := ndS_r hc
                    have g3 := nuS_r hm
                    have g4 := ndS_r hc2
                    have g5 := nuS_r hm2
                    simp only at h1 h2
                    subst h1 h2
                    exact ⟨Or.inr (Or.inr ⟨rfl, by omega, by dsimp only; omega, by dsimp only; omega, by dsimp only; omega, by dsimp only; omega, by dsimp only; omega⟩), by omega, by omega⟩
-- the class
abbrev rdrW : Pl := [(x_reader, some f_Reader_at), (x_reader, some f_Reader_bad)]
def tcX (cd : Nat → Nat) (lim : Nat) (I : HI) : Prop := lim ≤ 76 ∧ I x_reader f_Reader_limit = nI lim ∧ (∀ k, cd k < 256) ∧ ∀ k, k < lim → I x_text_signs k = nI (cd k)
theorem tcX.keep {cd : Nat → Nat} {lim : Nat} {I I' : HI} (h : tcX cd lim I) (a : Ag [(x_reader, some f_Reader_limit), (x_text_signs, none)] I I') : tcX cd lim I' := ⟨h.1, by rw [a _ _ rfl]; exact h.2.1, h.2.2.1, fun k hk => by rw [a _ _ rfl]; exact h.2.2.2 k hk⟩
theorem X6_isAt {cd : Nat → Nat} {lim a c : Nat} (ha : a ≤ 78) (hc : c < 256) {I : HI} {J : HJ} (ht : tcX cd lim I) (h : I x_reader f_Reader_at = nI a) : F_X6_isAt (nI c) I J = some (b1 (isC cd lim a c)) := by
  have h76 := ht.1
  have hcd := ht.2.2.1 a
  unfold F_X6_isAt isC
  rw [ht.2.1, h]
  by_cases d : a < lim
  · rw [if_neg (by rw [n_le] <;> omega), n_bx (by omega) (by omega), n_cl (by omega), ht.2.2.2 a d]
    by_cases e : cd a = c
    · rw [if_pos (by rw [e]), decide_eq_true ⟨d, e⟩]; rfl
    · rw [if_neg (by rw [n_eq] <;> omega), decide_eq_false (fun hh => e hh.2)]; rfl
  · rw [if_pos (by rw [n_le] <;> omega), decide_eq_false (fun hh => d hh.1)]; rfl
theorem X6_isDigit {cd : Nat → Nat} {lim a : Nat} (ha : a ≤ 78) {I : HI} {J : HJ} (ht : tcX cd lim I) (h : I x_reader f_Reader_at = nI a) : F_X6_isDigit I J = some (b1 (dgS cd lim a).isSome) := by
  have h76 := ht.1
  have hcd := ht.2.2.1 a
  unfold F_X6_isDigit dgS
  rw [ht.2.1, h]
  by_cases d : a < lim
  · rw [if_neg (by rw [n_le] <;> omega), n_bx (by omega) (by omega), n_cl (by omega), ht.2.2.2 a d, show (48 : Int32) = nI 48 from rfl, show (57 : Int32) = nI 57 from rfl, n_bx (by omega) (by omega)]
    by_cases e : cd a < 48
    · rw [if_pos (by rw [n_lt] <;> omega), if_neg (by omega)]; rfl
    · rw [if_neg (by rw [n_lt] <;> omega)]
      by_cases f : 57 < cd a
      · rw [if_pos (by rw [n_lt] <;> omega), if_neg (by omega)]; rfl
      · rw [if_neg (by rw [n_lt] <;> omega), if_pos (by omega)]; rfl
  · rw [if_pos (by rw [n_le] <;> omega), if_neg (by omega)]; rfl
/-- a reader's step: refused at e, or gone on to b -/
def stX (a0 : Nat ⊕ (Nat × Nat)) (I : HI) (J : HJ) (q : Int32 × HI × HJ) : Prop := q.2.2 = J ∧ Sm rdrW I q.2.1 ∧ ((∃ e, a0 = Sum.inl e ∧ q.1 = -1 ∧ q.2.1 x_reader f_Reader_bad = nI e) ∨ (∃ v b, a0 = Sum.inr (v, b) ∧ q.1 = nI v ∧ q.2.1 x_reader f_Reader_at = nI b ∧ q.2.1 x_reader f_Reader_bad = I x_reader f_Reader_bad))
theorem X6_failN {α : Type} {e : Nat} (I0 : HI) {I : HI} {J : HJ} (s : Sm rdrW I0 I) {v : α} {Q : α × HI × HJ → Prop} (hQ : ∀ I', Sm rdrW I0 I' → I' x_reader f_Reader_bad = nI e → Q (v, I', J)) : Ok (cl (F_X6_fail (nI e) I J) fun _ I' J' => some (v, I', J')) Q := by
  unfold F_X6_fail
  exact Ok.mk (hQ _ (Sm.mi rfl s) (by dsimp only; rw [ui_r]))
theorem X6_takeNumber {cd : Nat → Nat} {lim a lo hi : Nat} (ha : a ≤ 76) (hhi : hi < 1000) (hlo : lo < 1000) (I : HI) (J : HJ) (ht : tcX cd lim I) (h : I x_reader f_Reader_at = nI a) : Ok (F_X6_takeNumber (nI lo) (nI hi) I J) (stX (nuS cd lim 2 lo hi a) I J) := by
  have h76 := ht.1
  unfold F_X6_takeNumber nuS
  refine Ok.cpe (X6_isDigit (by omega) ht h) ?_
  cases hd : dgS cd lim a with
  | none =>
    refine Ok.t rfl ?_
    rw [h]
    exact X6_failN I Sm.rf (fun I' s e => ⟨rfl, s, Or.inl ⟨a, rfl, rfl, e⟩⟩)
  | some d =>
    obtain ⟨d1, d2, d3, d4⟩ := dgS_s hd
    refine Ok.f (show ¬ b1 true = 0 by decide) ?_
    rw [h]
    refine Ok.bxe (by omega) (by omega) (Ok.lbv (Ok.lbv ?_))
    rw [n_cl (by omega), ht.2.2.2 a d1, show (48 : Int32) = nI 48 from rfl, n_sub d2, ← d4, nI_1]
    have s7 : Sm rdrW I (ui I x_reader f_Reader_at (nI (a + 1))) := Sm.mi rfl Sm.rf
    have ht7 : tcX cd lim (ui I x_reader f_Reader_at (nI (a + 1))) := ht.keep (Ag.of s7 (by decide))
    refine Ok.cpe (X6_isDigit (a := a + 1) (by omega) ht7 (by rw [ui_r])) (Ok.lbv ?_)
    have fin : ∀ v b I', Sm rdrW I I' → I' x_reader f_Reader_at = nI (b + 1) → I' x_reader f_Reader_bad = I x_reader f_Reader_bad → v < 1000 → Ok (lb (cl (F_X6_fail ((I' x_reader f_Reader_at) - (1 : Int32)) I' J) fun r13 I14 J15 => some ((-1 : Int32), I14, J15)) fun j12 => if nI v < nI lo then j12 else if nI v ≤ nI hi then some (nI v, I', J) else j12) (stX (rgN lo hi v (b + 1) b) I J) := by
      intro v b I' s1 s2 s3 hv
      refine Ok.lbv ?_
      rw [s2, show (1 : Int32) = nI 1 from rfl, n_sub (by omega), Nat.add_sub_cancel]
      by_cases c1 : v < lo
      · refine Ok.t (by rw [n_lt] <;> omega) (X6_failN I s1 (fun I2 s e => ⟨rfl, s, Or.inl ⟨b, ?_, rfl, e⟩⟩))
        unfold rgN; rw [if_neg (by omega)]
      · refine Ok.f (by rw [n_lt] <;> omega) ?_
        by_cases c2 : v ≤ hi
        · refine Ok.t (by rw [n_le] <;> omega) (Ok.mk ⟨rfl, s1, Or.inr ⟨v, b + 1, ?_, rfl, s2, s3⟩⟩)
          unfold rgN; rw [if_pos (by omega)]
        · refine Ok.f (by rw [n_le] <;> omega) (X6_failN I s1 (fun I2 s e => ⟨rfl, s, Or.inl ⟨b, ?_, rfl, e⟩⟩))
          unfold rgN; rw [if_neg (by omega)]
    rw [if_pos rfl]
    cases he : dgS cd lim (a + 1) with
    | none =>
      refine Ok.t rfl ?_
      exact fin d a _ s7 (by rw [ui_r]) (by rw [ui_j (by decide)]) (by omega)
    | some e =>
      obtain ⟨e1, e2, e3, e4⟩ := dgS_s he
      refine Ok.f (show ¬ b1 true = 0 by decide) ?_
      rw [ui_r]
      refine Ok.bxe (by omega) (by omega) (Ok.lbv (Ok.lbv ?_))
      rw [n_cl (by omega), ht7.2.2.2 (a + 1) e1, show (10 : Int32) = nI 10 from rfl, n_mul, nI_add, n_sub (by omega), show d * 10 + cd (a + 1) - 48 = 10 * d + e by omega, nI_1]
      exact fin (10 * d + e) (a + 1) _ (Sm.mi rfl s7) (by rw [ui_r]) (by rw [ui_j (by decide), ui_j (by decide)]) (by omega)
/-- a wire's digit, other than no -/
def wiS (cd : Nat → Nat) (lim wd : Nat) (no : Option Nat) (a : Nat) : Nat ⊕ (Nat × Nat) := bdS (nuS cd lim 1 0 (wd - 1) a) (fun y => if no = some y.1 then Sum.inl a else Sum.inr y)
theorem X6_takeWire {cd : Nat → Nat} {lim a wd : Nat} (ha : a ≤ 76) (hwd : 0 < wd ∧ wd ≤ 10) (no : Option Nat) (l1 : Int32) (hno : l1 = match no with | none => -1 | some x => nI x) (hno2 : ∀ x, no = some x → x < 1000) (I : HI) (J : HJ) (ht : tcX cd lim I) (h : I x_reader f_Reader_at = nI a) (hw : I x_reader f_Reader_wide = nI wd) : Ok (F_X6_takeWire l1 I J) (stX (wiS cd lim wd no a) I J) := by
  have h76 := ht.1
  unfold F_X6_takeWire wiS nuS
  refine Ok.cpe (X6_isDigit (by omega) ht h) (Ok.lbv ?_)
  have hf : ∀ a0, a0 = Sum.inl a → Ok (cl (F_X6_fail (nI a) I J) fun r7 I8 J9 => some ((-1 : Int32), I8, J9)) (stX a0 I J) := fun a0 e0 => X6_failN I Sm.rf (fun I' s e => ⟨rfl, s, Or.inl ⟨a, e0, rfl, e⟩⟩)
  rw [h]
  cases hd : dgS cd lim a with
  | none => exact Ok.t rfl (Ok.lbv (Ok.t rfl (hf _ rfl)))
  | some d =>
    obtain ⟨d1, d2, d3, d4⟩ := dgS_s hd
    rw [if_neg (by decide : ¬ (1 = 2))]
    refine Ok.f (show ¬ b1 true = 0 by decide) (Ok.bxe (by omega) (by omega) (Ok.lbv ?_))
    rw [n_cl (by omega), ht.2.2.2 a d1, show (48 : Int32) = nI 48 from rfl, n_sub d2, ← d4, hw]
    refine Ok.f (fun e => (n_ne1 (a := d) (by omega)).mp e) ?_
    by_cases c1 : wd ≤ d
    · refine Ok.t (by rw [n_le] <;> omega) (hf _ ?_)
      simp only [rgN]
      rw [if_neg (by omega)]; rfl
    · refine Ok.f (by rw [n_le] <;> omega) ?_
      have er : rgN 0 (wd - 1) d (a + 1) a = Sum.inr (d, a + 1) := by unfold rgN; rw [if_pos (by omega)]
      simp only [er]
      by_cases c2 : no = some d
      · refine Ok.t (by rw [hno, c2]) (hf _ ?_)
        simp only [bdS]
        rw [if_pos c2]
      · refine Ok.f ?_ (Ok.lbv ?_)
        · rw [hno]
          cases no with
          | none => exact fun e => (n_ne1 (a := d) (by omega)).mp e
          | some x =>
            have := hno2 x rfl
            exact fun e => c2 (by rw [n_eq (by omega) (by omega)] at e; rw [e])
        · refine Ok.mk ⟨rfl, Sm.mi rfl Sm.rf, Or.inr ⟨d, a + 1, ?_, rfl, by dsimp only; rw [ui_r, nI_1], by dsimp only; rw [ui_j (by decide)]⟩⟩
          simp only [bdS]
          rw [if_neg c2]
theorem X6_take {cd : Nat → Nat} {lim a c : Nat} (ha : a ≤ 76) (hc : c < 256) (I : HI) (J : HJ) (ht : tcX cd lim I) (h : I x_reader f_Reader_at = nI a) : Ok (F_X6_take (nI c) I J) (fun q => q.2.2 = J ∧ Sm rdrW I q.2.1 ∧ ((ndS cd lim c a = Sum.inl a ∧ q.1 = 0 ∧ q.2.1 x_reader f_Reader_bad = nI a) ∨ (ndS cd lim c a = Sum.inr (a + 1) ∧ q.1 = 1 ∧ q.2.1 x_reader f_Reader_at = nI (a + 1) ∧ q.2.1 x_reader f_Reader_bad = I x_reader f_Reader_bad))) := by
  unfold F_X6_take ndS
  refine Ok.cpe (X6_isAt (by omega) hc ht h) ?_
  rw [h]
  cases hd : isC cd lim a c with
  | false =>
    refine Ok.t rfl ?_
    unfold F_X6_fail
    show Ok (g01 (0 : Int32) (some ((0 : Int32), ui I x_reader f_Reader_bad (nI a), J))) _
    exact Ok.gg01 (Or.inl rfl) (Ok.mk ⟨rfl, Sm.mi rfl Sm.rf, Or.inl ⟨rfl, rfl, by dsimp only; rw [ui_r]⟩⟩)
  | true =>
    refine Ok.f (by decide) (Ok.lbv (Ok.mk ⟨rfl, Sm.mi rfl Sm.rf, Or.inr ⟨rfl, rfl, by dsimp only; rw [ui_r, nI_1], by dsimp only; rw [ui_j (by decide)]⟩⟩))

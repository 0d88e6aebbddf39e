/-! LAYER 2: board: the class's lines -/
theorem gD_ap {α : Type} {C : List α} {x d : α} {k : Nat} : (C ++ [x]).getD k d = if k = C.length then x else C.getD k d := by
  rw [List.getD_eq_getElem?_getD, List.getD_eq_getElem?_getD]
  by_cases c : k = C.length
  · subst c; simp
  · rw [if_neg c]
    by_cases e : k < C.length
    · rw [List.getElem?_append_left e]
    · rw [List.getElem?_eq_none (by simp; omega), List.getElem?_eq_none (by omega)]
abbrev ln0 : Ln := (0, 0, 0, 0)
def lnE (l : Ln) (k : Nat) (I : HI) : Prop := I x_reader_kinds k = nI l.1 ∧ I x_reader_numbers k = nI l.2.2.2 ∧ (l.1 ≠ 0 → I x_reader_wires k = nI l.2.1) ∧ (l.1 = 2 → I x_reader_goals k = nI l.2.2.1)
def lnX (acc : List Ln) (I : HI) : Prop := I x_reader f_Reader_lines = nI acc.length ∧ ∀ k, k < acc.length → lnE (acc.getD k ln0) k I
theorem lnX.keep {acc : List Ln} {I I' : HI} (h : lnX acc I) (a : Ag [(x_reader, some f_Reader_lines), (x_reader_kinds, none), (x_reader_wires, none), (x_reader_goals, none), (x_reader_numbers, none)] I I') : lnX acc I' := ⟨by rw [a _ _ rfl]; exact h.1, fun k hk => by
  obtain ⟨h1, h2, h3, h4⟩ := h.2 k hk
  exact ⟨by rw [a _ _ rfl]; exact h1, by rw [a _ _ rfl]; exact h2, fun c => by rw [a _ _ rfl]; exact h3 c, fun c => by rw [a _ _ rfl]; exact h4 c⟩⟩
abbrev ntW : Pl := [(x_reader, some f_Reader_lines), (x_reader_kinds, none), (x_reader_wires, none), (x_reader_goals, none), (x_reader_numbers, none)]
theorem X6_note {acc : List Ln} (hl : acc.length < 76) (l : Ln) (l1 l2 l3 l4 : Int32) (e1 : l1 = nI l.1) (e2 : l4 = nI l.2.2.2) (e3 : l.1 ≠ 0 → l2 = nI l.2.1) (e4 : l.1 = 2 → l3 = nI l.2.2.1) (I : HI) (J : HJ) (h : lnX acc I) : Ok (F_X6_note l1 l2 l3 l4 I J) (fun q => q.1 = 1 ∧ q.2.2 = J ∧ Sm ntW I q.2.1 ∧ lnX (acc ++ [l]) q.2.1) := by
  unfold F_X6_note
  rw [h.1]
  refine Ok.t (show nI acc.length < (76 : Int32) from (by rw [n_lt (by omega) (by omega)]; exact hl : nI acc.length < nI 76)) (Ok.bxe (by omega) (by omega) (Ok.lbv ?_))
  rw [ui_c (show x_reader ≠ x_reader_kinds by decide), h.1]
  refine Ok.bxe (by omega) (by omega) (Ok.lbv ?_)
  rw [ui_c (show x_reader ≠ x_reader_wires by decide), ui_c (show x_reader ≠ x_reader_kinds by decide), h.1]
  refine Ok.bxe (by omega) (by omega) (Ok.lbv ?_)
  rw [ui_c (show x_reader ≠ x_reader_goals by decide), ui_c (show x_reader ≠ x_reader_wires by decide), ui_c (show x_reader ≠ x_reader_kinds by decide), h.1]
  refine Ok.bxe (by omega) (by omega) (Ok.lbv (Ok.lbv ?_))
  rw [ui_c (show x_reader ≠ x_reader_numbers by decide), ui_c (show x_reader ≠ x_reader_goals by decide), ui_c (show x_reader ≠ x_reader_wires by decide), ui_c (show x_reader ≠ x_reader_kinds by decide), h.1, n_cl (by omega), nI_1]
  refine Ok.mk ⟨rfl, rfl, Sm.mi rfl (Sm.mi rfl (Sm.mi rfl (Sm.mi rfl (Sm.mi rfl Sm.rf)))), by dsimp only; rw [ui_r, List.length_append]; rfl, fun k hk => ?_⟩
  rw [List.length_append, List.length_singleton] at hk
  rw [gD_ap]
  by_cases c : k = acc.length
  · rw [if_pos c, c]
    refine ⟨?_, ?_, fun hc => ?_, fun hc => ?_⟩ <;> dsimp only
    · rw [ui_c (by decide), ui_c (by decide), ui_c (by decide), ui_c (by decide), ui_r, e1]
    · rw [ui_c (by decide), ui_r, e2]
    · rw [ui_c (by decide), ui_c (by decide), ui_c (by decide), ui_r, e3 hc]
    · rw [ui_c (by decide), ui_c (by decide), ui_r, e4 hc]
  · rw [if_neg c]
    obtain ⟨h1, h2, h3, h4⟩ := h.2 k (by omega)
    refine ⟨?_, ?_, fun hc => ?_, fun hc => ?_⟩ <;> dsimp only
    · rw [ui_c (by decide), ui_c (by decide), ui_c (by decide), ui_c (by decide), ui_j c]; exact h1
    · rw [ui_c (by decide), ui_j c, ui_c (by decide), ui_c (by decide), ui_c (by decide)]; exact h2
    · rw [ui_c (by decide), ui_c (by decide), ui_c (by decide), ui_j c, ui_c (by decide)]; exact h3 hc
    · rw [ui_c (by decide), ui_c (by decide), ui_j c, ui_c (by decide), ui_c (by decide)]; exact h4 hc
def rsX (cd : Nat → Nat) (lim a wd lm : Nat) (I : HI) : Prop := tcX cd lim I ∧ I x_reader f_Reader_at = nI a ∧ I x_reader f_Reader_wide = nI wd ∧ I x_reader f_Reader_lamps = nI lm
abbrev rlW : Pl := [(x_reader, some f_Reader_at), (x_reader, some f_Reader_bad), (x_reader, some f_Reader_wide), (x_reader, some f_Reader_lamps), (x_reader, some f_Reader_lines), (x_reader_kinds, none), (x_reader_wires, none), (x_reader_goals, none), (x_reader_numbers, none)]
/-- what a line's reading leaves -/
def llX (cd : Nat → Nat) (lim wd lm : Nat) (acc : List Ln) (s : Nat ⊕ (Ln × Nat)) (I : HI) (J : HJ) (q : Int32 × HI × HJ) : Prop := q.2.2 = J ∧ Sm rlW I q.2.1 ∧ ((∃ e, s = Sum.inl e ∧ q.1 = 0 ∧ q.2.1 x_reader f_Reader_bad = nI e) ∨ (∃ l b, s = Sum.inr (l, b) ∧ q.1 = 1 ∧ rsX cd lim b (wdN l wd) (lmN l lm) q.2.1 ∧ lnX (acc ++ [l]) q.2.1 ∧ q.2.1 x_reader f_Reader_bad = I x_reader f_Reader_bad))
theorem X6_readWidth {cd : Nat → Nat} {lim a wd lm : Nat} (ha : a < 76) {acc : List Ln} (hl : acc.length < 76) (I : HI) (J : HJ) (h : rsX cd lim a wd lm I) (hn : lnX acc I) : Ok (F_X6_readWidth I J) (llX cd lim wd lm acc (bdS (nuS cd lim 2 2 10 (a + 1)) (fun n => Sum.inr ((0, 0, 0, n.1), n.2))) I J) := by
  obtain ⟨ht, h1, h2, h3⟩ := h
  unfold F_X6_readWidth
  refine Ok.lbv ?_
  rw [h1, nI_1]
  have s4 : Sm rdrW I (ui I x_reader f_Reader_at (nI (a + 1))) := Sm.mi rfl Sm.rf
  refine Ok.call (X6_takeNumber (lo := 2) (hi := 10) (a := a + 1) (by omega) (by omega) (by omega) _ J (ht.keep (Ag.of s4 (by decide))) (by rw [ui_r])) (fun r I6 J7 _ hP => ?_)
  obtain ⟨p1, p2, p3⟩ := hP
  simp only at p1 p2 p3
  subst p1
  have s6 : Sm rdrW I I6 := Sm.tr (by decide) s4 p2
  rcases p3 with ⟨e, q1, q2, q3⟩ | ⟨v, b, q1, q2, q3, q4⟩
  · rw [q1]
    exact Ok.t q2 (Ok.mk ⟨rfl, Sm.tr (by decide) Sm.rf s6, Or.inl ⟨e, rfl, rfl, q3⟩⟩)
  · have hv := nuS_r q1
    rw [q1, q2]
    refine Ok.f (fun e => (n_ne1 (a := v) (by omega)).mp e) (Ok.lbv (Ok.lbv ?_))
    have s9 : Sm [(x_reader, some f_Reader_wide), (x_reader, some f_Reader_lamps)] I6 (ui (ui I6 x_reader f_Reader_wide (nI v)) x_reader f_Reader_lamps 0) := Sm.mi rfl (Sm.mi rfl Sm.rf)
    refine Ok.call (X6_note hl (0, 0, 0, v) _ _ _ _ rfl rfl (fun c => absurd rfl c) (fun c => absurd c (show ¬ (0 : Nat) = 2 by decide)) _ J7 (hn.keep (Ag.two s6 s9 (by decide) (by decide)))) (fun r2 I11 J12 _ hP => ?_)
    obtain ⟨w1, w2, w3, w4⟩ := hP
    simp only at w1 w2 w3 w4
    subst w2
    refine Ok.gg01 (Or.inr w1) (Ok.mk ⟨rfl, Sm.tr (by decide) (Sm.tr (by decide) (Sm.tr (by decide) Sm.rf s6) s9) w3, Or.inr ⟨(0, 0, 0, v), b, rfl, w1, ⟨?_, ?_, ?_, ?_⟩, w4, ?_⟩⟩) <;> dsimp only
    · exact ht.keep (fun c j hc => by rw [Ag.of w3 (by decide) c j hc, Ag.two s6 s9 (by decide) (by decide) c j hc])
    · rw [w3 _ _ rfl, s9 _ _ rfl]; exact q3
    · rw [w3 _ _ rfl, ui_j (by decide), ui_r]; rfl
    · rw [w3 _ _ rfl, ui_r]; rfl
    · rw [w3 _ _ rfl, s9 _ _ rfl, q4, ui_j (by decide)]
theorem wiS_n {cd : Nat → Nat} {lim wd a : Nat} : wiS cd lim wd none a = nuS cd lim 1 0 (wd - 1) a := by
  unfold wiS
  cases nuS cd lim 1 0 (wd - 1) a with
  | inl e => rfl
  | inr y => simp only [bdS]; rw [if_neg (by simp)]
theorem X6_readOhms {cd : Nat → Nat} {lim a wd lm : Nat} (ha : a < 76) (hwd : 2 ≤ wd ∧ wd ≤ 10) {acc : List Ln} (hl : acc.length < 76) (I : HI) (J : HJ) (h : rsX cd lim a wd lm I) (hn : lnX acc I) : Ok (F_X6_readOhms I J) (llX cd lim wd lm acc (bdS (nuS cd lim 1 0 (wd - 1) (a + 1)) (fun x => bdS (ndS cd lim 44 x.2) (fun b => bdS (nuS cd lim 2 0 4 b) (fun n => Sum.inr ((1, x.1, 0, n.1), n.2))))) I J) := by
  obtain ⟨ht, h1, h2, h3⟩ := h
  have h76 := ht.1
  unfold F_X6_readOhms
  refine Ok.lbv ?_
  rw [h1, nI_1]
  have s2 : Sm rdrW I (ui I x_reader f_Reader_at (nI (a + 1))) := Sm.mi rfl Sm.rf
  refine Ok.call (X6_takeWire (a := a + 1) (wd := wd) (by omega) (by omega) none (-1) rfl (fun x hx => by cases hx) _ J (ht.keep (Ag.of s2 (by decide))) (by rw [ui_r]) (by rw [s2 _ _ rfl]; exact h2)) (fun r I4 J5 _ hP => ?_)
  obtain ⟨p1, p2, p3⟩ := hP
  simp only at p1 p2 p3
  subst p1
  rw [wiS_n] at p3
  have s4 : Sm rdrW I I4 := Sm.tr (by decide) s2 p2
  rcases p3 with ⟨e, q1, q2, q3⟩ | ⟨x, b, q1, q2, q3, q4⟩
  · rw [q1]
    exact Ok.t q2 (Ok.mk ⟨rfl, Sm.tr (by decide) Sm.rf s4, Or.inl ⟨e, rfl, rfl, q3⟩⟩)
  · have hx := nuS_r q1
    rw [ui_j (by decide)] at q4
    rw [q1, q2]
    refine Ok.f (fun e => (n_ne1 (a := x) (by omega)).mp e) ?_
    refine Ok.call (X6_take (c := 44) (a := b) (by omega) (by omega) I4 J5 (ht.keep (Ag.of s4 (by decide))) q3) (fun r6 I7 J8 _ hP => ?_)
    obtain ⟨w1, w2, w3⟩ := hP
    simp only at w1 w2 w3
    subst w1
    have s7 : Sm rdrW I I7 := Sm.tr (by decide) s4 w2
    simp only [bdS]
    rcases w3 with ⟨u1, u2, u3⟩ | ⟨u1, u2, u3, u4⟩
    · rw [u1]
      exact Ok.t u2 (Ok.mk ⟨rfl, Sm.tr (by decide) Sm.rf s7, Or.inl ⟨b, rfl, rfl, u3⟩⟩)
    · have hb := ndS_r u1
      rw [u1]
      refine Ok.f (by rw [u2]; decide) ?_
      refine Ok.call (X6_takeNumber (lo := 0) (hi := 4) (a := b + 1) (by omega) (by omega) (by omega) I7 J8 (ht.keep (Ag.of s7 (by decide))) u3) (fun r9 I10 J11 _ hP => ?_)
      obtain ⟨x1, x2, x3⟩ := hP
      simp only at x1 x2 x3
      subst x1
      have s10 : Sm rdrW I I10 := Sm.tr (by decide) s7 x2
      rcases x3 with ⟨e, y1, y2, y3⟩ | ⟨v, b', y1, y2, y3, y4⟩
      · simp only [y1]
        exact Ok.t y2 (Ok.mk ⟨rfl, Sm.tr (by decide) Sm.rf s10, Or.inl ⟨e, rfl, rfl, y3⟩⟩)
      · have hv := nuS_r y1
        simp only [y1]
        rw [y2]
        refine Ok.f (fun e => (n_ne1 (a := v) (by omega)).mp e) ?_
        refine Ok.call (X6_note hl (1, x, 0, v) _ _ _ _ rfl rfl (fun _ => rfl) (fun c => absurd c (show ¬ (1 : Nat) = 2 by decide)) I10 J11 (hn.keep (Ag.of s10 (by decide)))) (fun r2 I13 J14 _ hP => ?_)
        obtain ⟨z1, z2, z3, z4⟩ := hP
        simp only at z1 z2 z3 z4
        subst z2
        refine Ok.f (by rw [z1]; decide) (Ok.mk ⟨rfl, Sm.tr (by decide) (Sm.tr (by decide) Sm.rf s10) z3, Or.inr ⟨(1, x, 0, v), b', rfl, rfl, ⟨?_, ?_, ?_, ?_⟩, z4, ?_⟩⟩) <;> dsimp only
        · exact ht.keep (Ag.two s10 z3 (by decide) (by decide))
        · rw [z3 _ _ rfl]; exact y3
        · rw [z3 _ _ rfl, s10 _ _ rfl]; exact h2
        · rw [z3 _ _ rfl, s10 _ _ rfl]; exact h3
        · rw [z3 _ _ rfl, y4, u4, q4]
theorem X6_readLamp {cd : Nat → Nat} {lim a wd lm : Nat} (ha : a ≤ 76) (hwd : 2 ≤ wd ∧ wd ≤ 10) (hlm : lm ≤ 60) {acc : List Ln} (hl : acc.length < 76) (I : HI) (J : HJ) (h : rsX cd lim a wd lm I) (hn : lnX acc I) : Ok (F_X6_readLamp I J) (llX cd lim wd lm acc (if lm = 60 then Sum.inl a else bdS (nuS cd lim 1 0 (wd - 1) a) (fun x => bdS (ndS cd lim 62 x.2) (fun b => bdS (nuS cd lim 1 0 (wd - 1) b) (fun y => if y.1 = x.1 then Sum.inl b else bdS (ndS cd lim 42 y.2) (fun c => bdS (nuS cd lim 2 1 9 c) (fun n => Sum.inr ((2, x.1, y.1, n.1), n.2))))))) I J) := by
  obtain ⟨ht, h1, h2, h3⟩ := h
  have h76 := ht.1
  unfold F_X6_readLamp
  rw [h3]
  by_cases c60 : lm = 60
  · rw [if_pos c60]
    refine Ok.f (show ¬ nI lm < (60 : Int32) from (by rw [n_lt (by omega) (by omega)]; omega : ¬ nI lm < nI 60)) ?_
    rw [h1]
    unfold F_X6_fail
    show Ok (g01 (0 : Int32) (some ((0 : Int32), ui I x_reader f_Reader_bad (nI a), J))) _
    exact Ok.gg01 (Or.inl rfl) (Ok.mk ⟨rfl, Sm.mi rfl Sm.rf, Or.inl ⟨a, rfl, rfl, by dsimp only; rw [ui_r]⟩⟩)
  rw [if_neg c60]
  refine Ok.t (show nI lm < (60 : Int32) from (by rw [n_lt (by omega) (by omega)]; omega : nI lm < nI 60)) ?_
  refine Ok.call (X6_takeWire (wd := wd) ha (by omega) none (-1) rfl (fun x hx => by cases hx) I J ht h1 h2) (fun r I4 J5 _ hP => ?_)
  obtain ⟨p1, s4, p3⟩ := hP
  simp only at p1 s4 p3
  subst p1
  rw [wiS_n] at p3
  rcases p3 with ⟨e, q1, q2, q3⟩ | ⟨x, b, q1, q2, q3, q4⟩
  · rw [q1]
    exact Ok.t q2 (Ok.mk ⟨rfl, Sm.tr (by decide) Sm.rf s4, Or.inl ⟨e, rfl, rfl, q3⟩⟩)
  have hx := nuS_r q1
  rw [q1, q2]
  refine Ok.f (fun e => (n_ne1 (a := x) (by omega)).mp e) ?_
  refine Ok.call (X6_take (c := 62) (a := b) (by omega) (by omega) I4 J5 (ht.keep (Ag.of s4 (by decide))) q3) (fun r6 I7 J8 _ hP => ?_)
  obtain ⟨w1, w2, w3⟩ := hP
  simp only at w1 w2 w3
  subst w1
  have s7 : Sm rdrW I I7 := Sm.tr (by decide) s4 w2
  simp only [bdS]
  rcases w3 with ⟨u1, u2, u3⟩ | ⟨u1, u2, u3, u4⟩
  · rw [u1]
    exact Ok.t u2 (Ok.mk ⟨rfl, Sm.tr (by decide) Sm.rf s7, Or.inl ⟨b, rfl, rfl, u3⟩⟩)
  have hb := ndS_r u1
  rw [u1]
  refine Ok.f (by rw [u2]; decide) ?_
  refine Ok.call (X6_takeWire (a := b + 1) (wd := wd) (by omega) (by omega) (some x) (nI x) rfl (fun x' hx' => by injection hx' with e; omega) I7 J8 (ht.keep (Ag.of s7 (by decide))) u3 (by rw [s7 _ _ rfl]; exact h2)) (fun r8 I9 J10 _ hP => ?_)
  obtain ⟨v1, v2, v3⟩ := hP
  simp only at v1 v2 v3
  subst v1
  have s9 : Sm rdrW I I9 := Sm.tr (by decide) s7 v2
  unfold wiS at v3
  cases hy : nuS cd lim 1 0 (wd - 1) (b + 1) with
  | inl e0 =>
    rw [hy] at v3
    simp only [bdS] at v3
    rcases v3 with ⟨e, q1', q2', q3'⟩ | ⟨_, _, q1', _⟩
    · injection q1' with q1'
      subst q1'
      simp only [hy]
      exact Ok.t q2' (Ok.mk ⟨rfl, Sm.tr (by decide) Sm.rf s9, Or.inl ⟨_, rfl, rfl, q3'⟩⟩)
    · cases q1'
  | inr yy =>
    obtain ⟨y, b2⟩ := yy
    have hyr := nuS_r hy
    rw [hy] at v3
    simp only [bdS] at v3
    simp only [hy]
    by_cases cxy : y = x
    · rw [if_pos (by rw [cxy])] at v3
      rw [if_pos cxy]
      rcases v3 with ⟨e, q1', q2', q3'⟩ | ⟨_, _, q1', _⟩
      · injection q1' with q1'
        subst q1'
        exact Ok.t q2' (Ok.mk ⟨rfl, Sm.tr (by decide) Sm.rf s9, Or.inl ⟨_, rfl, rfl, q3'⟩⟩)
      · cases q1'
    · rw [if_neg (fun e => by injection e with e; exact cxy e.symm)] at v3
      rw [if_neg cxy]
      rcases v3 with ⟨_, q1', _⟩ | ⟨y', b', q1', q2', q3', q4'⟩
      · cases q1'
      injection q1' with q1'
      injection q1' with e1 e2
      subst e1 e2
      rw [q2']
      refine Ok.f (fun e => (n_ne1 (a := y) (by omega)).mp e) ?_
      refine Ok.call (X6_take (c := 42) (a := b2) (by omega) (by omega) I9 J10 (ht.keep (Ag.of s9 (by decide))) q3') (fun r11 I12 J13 _ hP => ?_)
      obtain ⟨w1', w2', w3'⟩ := hP
      simp only at w1' w2' w3'
      subst w1'
      have s12 : Sm rdrW I I12 := Sm.tr (by decide) s9 w2'
      rcases w3' with ⟨u1', u2', u3'⟩ | ⟨u1', u2', u3', u4'⟩
      · rw [u1']
        exact Ok.t u2' (Ok.mk ⟨rfl, Sm.tr (by decide) Sm.rf s12, Or.inl ⟨b2, rfl, rfl, u3'⟩⟩)
      have hb2 := ndS_r u1'
      rw [u1']
      refine Ok.f (by rw [u2']; decide) ?_
      refine Ok.call (X6_takeNumber (lo := 1) (hi := 9) (a := b2 + 1) (by omega) (by omega) (by omega) I12 J13 (ht.keep (Ag.of s12 (by decide))) u3') (fun r14 I15 J16 _ hP => ?_)
      obtain ⟨x1, x2, x3⟩ := hP
      simp only at x1 x2 x3
      subst x1
      have s15 : Sm rdrW I I15 := Sm.tr (by decide) s12 x2
      rcases x3 with ⟨e, y1, y2, y3⟩ | ⟨v, b', y1, y2, y3, y4⟩
      · simp only [y1]
        exact Ok.t y2 (Ok.mk ⟨rfl, Sm.tr (by decide) Sm.rf s15, Or.inl ⟨e, rfl, rfl, y3⟩⟩)
      have hv := nuS_r y1
      simp only [y1]
      rw [y2]
      refine Ok.f (fun e => (n_ne1 (a := v) (by omega)).mp e) (Ok.lbv ?_)
      rw [s15 x_reader f_Reader_lamps rfl, h3, nI_1]
      have s17 : Sm [(x_reader, some f_Reader_lamps)] I15 (ui I15 x_reader f_Reader_lamps (nI (lm + 1))) := Sm.mi rfl Sm.rf
      refine Ok.call (X6_note hl (2, x, y, v) _ _ _ _ rfl rfl (fun _ => rfl) (fun _ => rfl) _ J16 (hn.keep (Ag.two s15 s17 (by decide) (by decide)))) (fun r2 I19 J20 _ hP => ?_)
      obtain ⟨z1, z2, z3, z4⟩ := hP
      simp only at z1 z2 z3 z4
      subst z2
      refine Ok.gg01 (Or.inr z1) (Ok.mk ⟨rfl, Sm.tr (by decide) (Sm.tr (by decide) (Sm.tr (by decide) Sm.rf s15) s17) z3, Or.inr ⟨(2, x, y, v), b', rfl, z1, ⟨?_, ?_, ?_, ?_⟩, z4, ?_⟩⟩) <;> dsimp only
      · exact ht.keep (fun c j hc => by rw [Ag.of z3 (by decide) c j hc, Ag.two s15 s17 (by decide) (by decide) c j hc])
      · rw [z3 _ _ rfl, s17 _ _ rfl]; exact y3
      · rw [z3 _ _ rfl, s17 _ _ rfl, s15 _ _ rfl]; exact h2
      · rw [z3 _ _ rfl, ui_r]; rfl
      · rw [z3 _ _ rfl, s17 _ _ rfl, y4, u4', q4', u4, q4]
theorem X6_readLine {cd : Nat → Nat} {lim a wd lm : Nat} (ha : a ≤ 76) (hwd : 2 ≤ wd ∧ wd ≤ 10) (hlm : lm ≤ 60) {acc : List Ln} (hl : acc.length < 76) (I : HI) (J : HJ) (h : rsX cd lim a wd lm I) (hn : lnX acc I) : Ok (F_X6_readLine I J) (llX cd lim wd lm acc (lnS cd lim wd lm a) I J) := by
  have h76 := h.1.1
  unfold F_X6_readLine lnS
  refine Ok.cpe (X6_isAt (c := 119) (by omega) (by omega) h.1 h.2.1) ?_
  cases c1 : isC cd lim a 119 with
  | true =>
    have hlt := (of_decide_eq_true c1).1
    refine Ok.f (by decide) (Ok.call (X6_readWidth (by omega) hl I J h hn) (fun r I2 J2 _ hP => ?_))
    refine Ok.gg01 ?_ (Ok.mk hP)
    rcases hP.2.2 with ⟨_, _, e, _⟩ | ⟨_, _, _, e, _⟩
    · exact Or.inl e
    · exact Or.inr e
  | false =>
    rw [if_neg (show ¬ false = true by decide)]
    refine Ok.t rfl (Ok.cpe (X6_isAt (c := 114) (by omega) (by omega) h.1 h.2.1) ?_)
    cases c2 : isC cd lim a 114 with
    | true =>
      have hlt := (of_decide_eq_true c2).1
      refine Ok.f (by decide) (Ok.call (X6_readOhms (by omega) hwd hl I J h hn) (fun r I2 J2 _ hP => ?_))
      refine Ok.gg01 ?_ (Ok.mk hP)
      rcases hP.2.2 with ⟨_, _, e, _⟩ | ⟨_, _, _, e, _⟩
      · exact Or.inl e
      · exact Or.inr e
    | false =>
      rw [if_neg (show ¬ false = true by decide)]
      refine Ok.t rfl (Ok.call (X6_readLamp ha hwd hlm hl I J h hn) (fun r I2 J2 _ hP => ?_))
      refine Ok.gg01 ?_ (Ok.mk hP)
      rcases hP.2.2 with ⟨_, _, e, _⟩ | ⟨_, _, _, e, _⟩
      · exact Or.inl e
      · exact Or.inr e

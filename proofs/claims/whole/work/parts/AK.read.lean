/-! LAYER 2: board: the class reads -/
theorem X6_goesOn {cd : Nat → Nat} {lim a : Nat} (ha : a ≤ lim) (I : HI) (J : HJ) (ht : tcX cd lim I) (h : I x_reader f_Reader_at = nI a) : Ok (F_X6_goesOn I J) (fun q => q.2.2 = J ∧ Sm rdrW I q.2.1 ∧ ((lim ≤ a ∧ q.1 = 0 ∧ q.2.1 x_reader f_Reader_bad = I x_reader f_Reader_bad) ∨ (¬ lim ≤ a ∧ isC cd lim a 59 = false ∧ q.1 = 0 ∧ q.2.1 x_reader f_Reader_bad = nI a) ∨ (¬ lim ≤ a ∧ isC cd lim a 59 = true ∧ q.1 = 1 ∧ q.2.1 x_reader f_Reader_at = nI (a + 1) ∧ q.2.1 x_reader f_Reader_bad = I x_reader f_Reader_bad))) := by
  have h76 := ht.1
  unfold F_X6_goesOn
  rw [ht.2.1, h]
  by_cases c : lim ≤ a
  · exact Ok.t (by rw [n_le] <;> omega) (Ok.mk ⟨rfl, Sm.rf, Or.inl ⟨c, rfl, rfl⟩⟩)
  · refine Ok.f (by rw [n_le] <;> omega) ?_
    refine Ok.call (X6_take (c := 59) (by omega) (by omega) I J ht h) (fun r I2 J3 _ hP => ?_)
    obtain ⟨p1, p2, p3⟩ := hP
    simp only at p1 p2 p3
    subst p1
    rcases p3 with ⟨q1, q2, q3⟩ | ⟨q1, q2, q3, q4⟩
    · exact Ok.t q2 (Ok.mk ⟨rfl, p2, Or.inr (Or.inl ⟨c, (ndS_l q1).2, rfl, q3⟩)⟩)
    · exact Ok.f (by rw [q2]; decide) (Ok.mk ⟨rfl, p2, Or.inr (Or.inr ⟨c, (ndS_r q1).2.2, rfl, q3, q4⟩)⟩)
theorem rdS_s (cd : Nat → Nat) (lim K a wd lm : Nat) (acc : List Ln) : rdS cd lim (K + 1) a wd lm acc = match lnS cd lim wd lm a with
    | Sum.inl e => Sum.inl e
    | Sum.inr (l, b) => if lim ≤ b then Sum.inr (acc ++ [l]) else if isC cd lim b 59 then rdS cd lim K (b + 1) (wdN l wd) (lmN l lm) (acc ++ [l]) else Sum.inl b := rfl
theorem ln_next {wd lm : Nat} {l : Ln} (hwd : 2 ≤ wd ∧ wd ≤ 10) (hlm : lm ≤ 60) (h : lnOk wd lm l) : (2 ≤ wdN l wd ∧ wdN l wd ≤ 10) ∧ lmN l lm ≤ 60 := by
  unfold wdN lmN
  rcases h with ⟨h1, h2, h3⟩ | ⟨h1, h2, h3⟩ | ⟨h1, h2, _⟩
  · rw [if_pos h1, if_pos h1]; omega
  · rw [if_neg (by omega), if_neg (by omega), if_neg (by omega)]; omega
  · rw [if_neg (by omega), if_neg (by omega), if_pos h1]; omega
theorem X6_read_L {cd : Nat → Nat} {lim : Nat} (J : HJ) (I0 : HI) {kx : HI → HJ → Option (Int32 × HI × HJ)} {Q : Int32 × HI × HJ → Prop} (res : Nat ⊕ (List Ln)) (hx : ∀ I, Sm rlW I0 I → ((∃ e, e ≤ 76 ∧ res = Sum.inl e ∧ I x_reader f_Reader_bad = nI e) ∨ (∃ ls, res = Sum.inr ls ∧ I x_reader f_Reader_bad = -1 ∧ lnX ls I)) → Ok (kx I J) Q) : ∀ (K PK a wd lm : Nat) (acc : List Ln) (I : HI), lim + 1 ≤ a + K → K < PK → a ≤ lim → 2 * acc.length ≤ a → 2 ≤ wd ∧ wd ≤ 10 → lm ≤ 60 → Sm rlW I0 I → rsX cd lim a wd lm I → lnX acc I → I x_reader f_Reader_bad = -1 → rdS cd lim K a wd lm acc = res → (∀ e, rdS cd lim K a wd lm acc = Sum.inl e → e ≤ 76) → Ok (F_X6_read_L60 kx PK 1 (nI acc.length) I J) Q := by
  intro K
  induction K with
  | zero => intro PK a wd lm acc I h1 h2 h3; omega
  | succ K ih =>
    intro PK a wd lm acc I h1 h2 h3 h4 hwd hlm s0 hr hn hb hres he76
    have h76 := hr.1.1
    obtain ⟨PK, rfl⟩ : ∃ P', PK = P' + 2 := ⟨PK - 2, by omega⟩
    have stop : ∀ I', Sm rlW I0 I' → ((∃ e, e ≤ 76 ∧ res = Sum.inl e ∧ I' x_reader f_Reader_bad = nI e) ∨ (∃ ls, res = Sum.inr ls ∧ I' x_reader f_Reader_bad = -1 ∧ lnX ls I')) → Ok (F_X6_read_L60 kx (PK + 1) 0 (nI acc.length + 1) I' J) Q := by
      intro I' a1 a2
      rw [F_X6_read_L60, nI_1]
      exact Ok.ite (fun _ => hx I' a1 a2) (fun _ => Ok.t rfl (hx I' a1 a2))
    rw [F_X6_read_L60]
    refine Ok.f (show ¬ (76 : Int32) ≤ nI acc.length from (by rw [n_le (by omega) (by omega)]; omega : ¬ nI 76 ≤ nI acc.length)) (Ok.f (by decide) ?_)
    refine Ok.call (X6_readLine (by omega) hwd hlm (by omega) I J hr hn) (fun r I17 J18 _ hP => ?_)
    obtain ⟨p1, p2, p3⟩ := hP
    simp only at p1 p2 p3
    subst p1
    have s17 : Sm rlW I0 I17 := Sm.tr (by decide) s0 p2
    refine Ok.lbv (Ok.lbv ?_)
    rw [rdS_s] at hres he76
    rcases p3 with ⟨e, q1, q2, q3⟩ | ⟨l, b, q1, q2, q3, q4, q5⟩
    · rw [q1] at hres he76
      simp only at hres he76
      exact Ok.t q2 (stop I17 s17 (Or.inl ⟨e, he76 e rfl, hres.symm, q3⟩))
    · obtain ⟨g1, g2, g3⟩ := lnS_r (by omega) hlm q1
      have hnx := ln_next hwd hlm g1
      rw [q1] at hres he76
      simp only at hres he76
      rw [hb] at q5
      refine Ok.f (by rw [q2]; decide) ?_
      refine Ok.call (X6_goesOn (a := b) g3 I17 J18 q3.1 q3.2.1) (fun r26 I27 J28 _ hP => ?_)
      obtain ⟨w1, w2, w3⟩ := hP
      simp only at w1 w2 w3
      subst w1
      have s27 : Sm rlW I0 I27 := Sm.tr (by decide) s17 w2
      have hn27 : lnX (acc ++ [l]) I27 := q4.keep (Ag.of w2 (by decide))
      rcases w3 with ⟨u1, u2, u3⟩ | ⟨u1, u2, u3, u4⟩ | ⟨u1, u2, u3, u4, u5⟩
      · rw [if_pos u1] at hres
        exact Ok.t u2 (stop I27 s27 (Or.inr ⟨_, hres.symm, by rw [u3, q5], hn27⟩))
      · rw [if_neg u1, u2] at hres
        exact Ok.t u3 (stop I27 s27 (Or.inl ⟨b, by omega, hres.symm, u4⟩))
      · rw [if_neg u1, u2, if_pos rfl] at hres he76
        refine Ok.f (by rw [u3]; decide) ?_
        have := ih (PK + 1) (b + 1) (wdN l wd) (lmN l lm) (acc ++ [l]) I27 (by omega) (by omega) (by omega) (by rw [List.length_append, List.length_singleton]; omega) hnx.1 hnx.2 s27 ⟨q3.1.keep (Ag.of w2 (by decide)), u4, by rw [w2 _ _ rfl]; exact q3.2.2.1, by rw [w2 _ _ rfl]; exact q3.2.2.2⟩ hn27 (by rw [u5, q5]) hres he76
        rw [List.length_append, List.length_singleton] at this
        show Ok (F_X6_read_L60 kx (PK + 1) 1 (nI acc.length + 1) I27 J28) Q
        rw [nI_1]
        exact this
/-- where a refusal stands -/
theorem rgN_l {lo hi v a e x : Nat} (h : rgN lo hi v a e = Sum.inl x) : x = e := by
  unfold rgN at h
  by_cases c : lo ≤ v ∧ v ≤ hi
  · rw [if_pos c] at h; cases h
  · rw [if_neg c] at h; injection h with h; exact h.symm
theorem nuS_l {cd : Nat → Nat} {lim k lo hi a e : Nat} (ha : a ≤ lim) (h : nuS cd lim k lo hi a = Sum.inl e) : e ≤ lim := by
  unfold nuS at h
  cases hd : dgS cd lim a with
  | none => rw [hd] at h; injection h with h; omega
  | some d =>
    have h1 := dgS_s hd
    rw [hd] at h
    cases he : (if k = 2 then dgS cd lim (a + 1) else none) with
    | none => rw [he] at h; have := rgN_l h; omega
    | some e' =>
      rw [he] at h
      have := rgN_l h
      omega
theorem lnS_l {cd : Nat → Nat} {lim wd lm a e : Nat} (ha : a ≤ lim) (h : lnS cd lim wd lm a = Sum.inl e) : e ≤ lim := by
  unfold lnS at h
  by_cases c1 : isC cd lim a 119 = true
  · rw [if_pos c1] at h
    have hlt := (of_decide_eq_true c1).1
    cases hn : nuS cd lim 2 2 10 (a + 1) with
    | inl e' => rw [hn] at h; injection h with h; have := nuS_l (by omega) hn; omega
    | inr n => rw [hn] at h; cases h
  · rw [if_neg c1] at h
    by_cases c2 : isC cd lim a 114 = true
    · rw [if_pos c2] at h
      have hlt := (of_decide_eq_true c2).1
      cases hn : nuS cd lim 1 0 (wd - 1) (a + 1) with
      | inl e' => rw [hn] at h; injection h with h; have := nuS_l (by omega) hn; omega
      | inr n =>
        obtain ⟨x, a2⟩ := n
        have g1 := nuS_r hn
        rw [hn] at h
        simp only [bdS] at h
        cases hc : ndS cd lim 44 a2 with
        | inl e' => rw [hc] at h; injection h with h; have := ndS_l hc; omega
        | inr a3 =>
          have g2 := ndS_r hc
          rw [hc] at h
          simp only at h
          cases hm : nuS cd lim 2 0 4 a3 with
          | inl e' => rw [hm] at h; injection h with h; have := nuS_l (by omega) hm; omega
          | inr n => rw [hm] at h; cases h
    · rw [if_neg c2] at h
      by_cases c3 : lm = 60
      · rw [if_pos c3] at h; injection h with h; omega
      · rw [if_neg c3] at h
        cases hn : nuS cd lim 1 0 (wd - 1) a with
        | inl e' => rw [hn] at h; injection h with h; have := nuS_l ha hn; omega
        | inr n =>
          obtain ⟨x, a2⟩ := n
          have g1 := nuS_r hn
          rw [hn] at h
          simp only [bdS] at h
          cases hc : ndS cd lim 62 a2 with
          | inl e' => rw [hc] at h; injection h with h; have := ndS_l hc; omega
          | inr a3 =>
            have g2 := ndS_r hc
            rw [hc] at h
            simp only at h
            cases hm : nuS cd lim 1 0 (wd - 1) a3 with
            | inl e' => rw [hm] at h; injection h with h; have := nuS_l (by omega) hm; omega
            | inr n =>
              obtain ⟨y, a4⟩ := n
              have g3 := nuS_r hm
              rw [hm] at h
              simp only at h
              by_cases c4 : y = x
              · rw [if_pos c4] at h; injection h with h; omega
              · rw [if_neg c4] at h
                cases hc2 : ndS cd lim 42 a4 with
                | inl e' => rw [hc2] at h; injection h with h; have := ndS_l hc2; omega
                | inr a5 =>
                  have g4 := ndS_r hc2
                  rw [hc2] at h
                  simp only at h
                  cases hm2 : nuS cd lim 2 1 9 a5 with
                  | inl e' => rw [hm2] at h; injection h with h; have := nuS_l (by omega) hm2; omega
                  | inr n => rw [hm2] at h; cases h
theorem rdS_l {cd : Nat → Nat} {lim : Nat} : ∀ (K a wd lm : Nat) (acc : List Ln) (e : Nat), 2 ≤ wd ∧ wd ≤ 10 → lm ≤ 60 → a ≤ lim → rdS cd lim K a wd lm acc = Sum.inl e → e ≤ lim
  | 0, a, wd, lm, acc, e, _, _, ha, h => by injection h with h; omega
  | K+1, a, wd, lm, acc, e, hwd, hlm, ha, h => by
    rw [rdS_s] at h
    cases hl : lnS cd lim wd lm a with
    | inl e' => rw [hl] at h; injection h with h; have := lnS_l ha hl; omega
    | inr lb =>
      obtain ⟨l, b⟩ := lb
      obtain ⟨g1, g2, g3⟩ := lnS_r (by omega) hlm hl
      have hnx := ln_next hwd hlm g1
      rw [hl] at h
      simp only at h
      by_cases c : lim ≤ b
      · rw [if_pos c] at h; cases h
      · rw [if_neg c] at h
        by_cases d : isC cd lim b 59 = true
        · rw [if_pos d] at h
          exact rdS_l K (b + 1) _ _ _ e hnx.1 hnx.2 (by omega) h
        · rw [if_neg d] at h; injection h with h; omega
/-- what the whole text says -/
def rdT (cd : Nat → Nat) (sz wd lm : Nat) : Nat ⊕ (List Ln) := if sz = 0 then Sum.inr [] else match rdS cd (min sz 76) 80 0 wd lm [] with
  | Sum.inl e => Sum.inl e
  | Sum.inr ls => if sz ≤ 76 then Sum.inr ls else Sum.inl 76
abbrev rtW : Pl := (x_reader, some f_Reader_limit) :: rlW
theorem X6_read {cd : Nat → Nat} {sz wd lm : Nat} (hsz : sz ≤ 80) (hwd : 2 ≤ wd ∧ wd ≤ 10) (hlm : lm ≤ 60) (hcd : ∀ k, cd k < 256) (I : HI) (J : HJ) (h1 : I x_text f_Text_size = nI sz) (h2 : ∀ k, k < sz → I x_text_signs k = nI (cd k)) : Ok (F_X6_read (nI wd) (nI lm) I J) (fun q => q.2.2 = J ∧ Sm rtW I q.2.1 ∧ ((∃ e, e ≤ 76 ∧ rdT cd sz wd lm = Sum.inl e ∧ q.1 = nI e) ∨ (∃ ls, rdT cd sz wd lm = Sum.inr ls ∧ q.1 = -1 ∧ lnX ls q.2.1))) := by
  unfold F_X6_read
  refine Ok.lbv (Ok.lbv (Ok.lbv (Ok.lbv (Ok.lbv (Ok.lbv (Ok.lbv ?_))))))
  obtain ⟨I12, hI12⟩ : ∃ I12, I12 = ui (ui (ui (ui (ui I x_reader f_Reader_wide (nI wd)) x_reader f_Reader_lamps (nI lm)) x_reader f_Reader_lines 0) x_reader f_Reader_at 0) x_reader f_Reader_bad (-1) := ⟨_, rfl⟩
  rw [← hI12]
  have s12 : Sm rtW I I12 := by rw [hI12]; exact Sm.mi rfl (Sm.mi rfl (Sm.mi rfl (Sm.mi rfl (Sm.mi rfl Sm.rf))))
  rw [s12 x_text f_Text_size rfl, h1, show (76 : Int32) = nI 76 from rfl, omin_n (by omega) (by omega)]
  have s13 : Sm rtW I (ui I12 x_reader f_Reader_limit (nI (min sz 76))) := Sm.mi rfl s12
  rw [s13 x_text f_Text_size rfl, h1]
  have r13 : rsX cd (min sz 76) 0 wd lm (ui I12 x_reader f_Reader_limit (nI (min sz 76))) := by
    refine ⟨⟨by omega, by rw [ui_r], hcd, fun k hk => by rw [s13 _ _ rfl]; exact h2 k (by omega)⟩, ?_, ?_, ?_⟩
    · rw [ui_j (by decide), hI12, ui_j (by decide), ui_r]; rfl
    · rw [ui_j (by decide), hI12, ui_j (by decide), ui_j (by decide), ui_j (by decide), ui_j (by decide), ui_r]
    · rw [ui_j (by decide), hI12, ui_j (by decide), ui_j (by decide), ui_j (by decide), ui_r]
  have b13 : ui I12 x_reader f_Reader_limit (nI (min sz 76)) x_reader f_Reader_bad = -1 := by rw [ui_j (by decide), hI12, ui_r]
  have n13 : lnX [] (ui I12 x_reader f_Reader_limit (nI (min sz 76))) := ⟨by rw [ui_j (by decide), hI12, ui_j (by decide), ui_j (by decide), ui_r]; rfl, fun k hk => by cases hk⟩
  have fin : ∀ I', Sm rtW I I' → (sz = 0 → I' x_reader f_Reader_bad = -1 ∧ lnX [] I') → (¬ sz = 0 → ((∃ e, e ≤ 76 ∧ rdS cd (min sz 76) 80 0 wd lm [] = Sum.inl e ∧ I' x_reader f_Reader_bad = nI e) ∨ (∃ ls, rdS cd (min sz 76) 80 0 wd lm [] = Sum.inr ls ∧ I' x_reader f_Reader_bad = -1 ∧ lnX ls I'))) → Ok (lb (fun (I31 : HI) => some ((I31 x_reader f_Reader_bad), I31, J)) fun j32 => if (I' x_reader f_Reader_bad) = (-1 : Int32) then if (I' x_text f_Text_size) ≤ nI 76 then j32 I' else lb (ui I' x_reader f_Reader_bad (nI 76)) fun I33 => j32 I33 else j32 I') (fun q => q.2.2 = J ∧ Sm rtW I q.2.1 ∧ ((∃ e, e ≤ 76 ∧ rdT cd sz wd lm = Sum.inl e ∧ q.1 = nI e) ∨ (∃ ls, rdT cd sz wd lm = Sum.inr ls ∧ q.1 = -1 ∧ lnX ls q.2.1))) := by
    intro I' a1 a2 a3
    refine Ok.lbv ?_
    rw [a1 x_text f_Text_size rfl, h1]
    by_cases c0 : sz = 0
    · obtain ⟨b1, b2⟩ := a2 c0
      refine Ok.t b1 (Ok.t (by rw [n_le] <;> omega) (Ok.mk ⟨rfl, a1, Or.inr ⟨[], ?_, b1, b2⟩⟩))
      unfold rdT; rw [if_pos c0]
    · rcases a3 c0 with ⟨e, b0, b1, b2⟩ | ⟨ls, b1, b2, b3⟩
      · rw [b2]
        refine Ok.f (fun e' => (n_ne1 (a := e) (by omega)).mp e') (Ok.mk ⟨rfl, a1, Or.inl ⟨e, b0, ?_, b2⟩⟩)
        unfold rdT; rw [if_neg c0, b1]
      · refine Ok.t b2 ?_
        by_cases c : sz ≤ 76
        · refine Ok.t (by rw [n_le] <;> omega) (Ok.mk ⟨rfl, a1, Or.inr ⟨ls, ?_, b2, b3⟩⟩)
          unfold rdT; rw [if_neg c0, b1]; simp only; rw [if_pos c]
        · refine Ok.f (by rw [n_le] <;> omega) (Ok.lbv (Ok.mk ⟨rfl, Sm.mi rfl a1, Or.inl ⟨76, by omega, ?_, by dsimp only; rw [ui_r]⟩⟩))
          unfold rdT; rw [if_neg c0, b1]; simp only; rw [if_neg c]
  by_cases c0 : sz = 0
  · refine Ok.t (show nI sz ≤ nI 0 by rw [n_le] <;> omega) ?_
    show Ok (F_X6_read_L60 _ (999999 + 1) 0 0 _ J) _
    rw [F_X6_read_L60]
    exact Ok.f (by decide) (Ok.t rfl (fin _ s13 (fun _ => ⟨b13, n13⟩) (fun h => absurd c0 h)))
  · refine Ok.f (show ¬ nI sz ≤ nI 0 by rw [n_le] <;> omega) ?_
    exact X6_read_L J (ui I12 x_reader f_Reader_limit (nI (min sz 76))) (rdS cd (min sz 76) 80 0 wd lm []) (fun I' a1 a2 => fin I' (Sm.tr (by decide) s13 a1) (fun h => absurd h c0) (fun _ => a2)) 80 bgf 0 wd lm [] _ (by omega) (by unfold bgf; omega) (by omega) (by simp) hwd hlm Sm.rf r13 n13 b13 rfl (fun e he => by have := rdS_l 80 0 wd lm [] e hwd hlm (by omega) he; omega)

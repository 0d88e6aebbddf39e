/-! LAYER 2: tree: the reference's answers and leaders -/
def tsM (T : Nat) (th tl : Nat → Int32) (I : HI) : Prop := I m_self f_Model_testMany = nI T ∧ ∀ t, t < T → I m_testHigh t = th t ∧ I m_testLow t = tl t
def awQ (T n : Nat) (an : Nat → Nat → Int64) (J : HJ) : Prop := ∀ t i, t < T → i < n → J m_answer (116 * t + i) = an t i
theorem X12_answers_6 {B : Bd} (hB : OkB B) {C : List Nat} (hC : C.length ≤ 116) (hCl : ∀ k, k < C.length → C.getD k 0 < nF B) {T : Nat} (hT : T ≤ 8) {th tl : Nat → Int32} (hok : ∀ t, t < T → okS (bi (th t)) (bi (tl t))) {kx : HI → HJ → Option (Unit × HI × HJ)} {Q : Unit × HI × HJ → Prop} (hx : ∀ I J, MB B I → CMod I → agM C I → tsM T th tl I → awQ T C.length (anS B C th tl) J → Ok (kx I J) Q) : ∀ K l, l ≤ C.length → C.length - l < K → ∀ I J, MB B I → CMod I → agM C I → tsM T th tl I → awQ T l (anS B C th tl) J → Ok (F_X12_findAnswers_L6 kx K (nI l) I J) Q := by
  refine up ?_ ?_
  · intro K I J h1 h2 h3 h4 h5
    rw [F_X12_findAnswers_L6]
    exact Ok.t (by rw [h3.1, n_le] <;> omega) (hx I J h1 h2 h3 h4 h5)
  · intro K l hl ih I J h1 h2 h3 h4 h5
    have hfl := hCl l hl
    rw [F_X12_findAnswers_L6]
    refine Ok.f (by rw [h3.1, n_le] <;> omega) (Ok.bxe (by omega) (by omega) ?_)
    rw [n_cl (by omega), h3.2 l hl, nI_1]
    refine Ok.call ((X12_lay hB hfl I J h1).fo (fr_X12_lay _ I J)) (fun r I6 J7 _ hP => ?_)
    obtain ⟨q1, s1, s2⟩ := hP
    simp only at q1 s1 s2
    have lp : ∀ K2 t, t ≤ T → T - t < K2 → ∀ I2 J2, MB B I2 → LD B (ftK (bW B) (C.getD l 0)) (ftA (bW B) (C.getD l 0)) (ftB (bW B) (C.getD l 0)) I2 → CMod I2 → agM C I2 → tsM T th tl I2 → awQ T l (anS B C th tl) J2 → (∀ s, s < t → J2 m_answer (116 * s + l) = anS B C th tl s l) → Ok (F_X12_findAnswers_L26 (nI l) (fun (I12 : HI) (J13 : HJ) => F_X12_findAnswers_L6 kx K (nI (l + 1)) I12 J13) K2 (nI t) I2 J2) Q := by
      refine up ?_ ?_
      · intro K2 I2 J2 a1 _ a3 a4 a5 a6 a7
        rw [F_X12_findAnswers_L26]
        refine Ok.t (by rw [a5.1, n_le] <;> omega) (ih I2 J2 a1 a3 a4 a5 (fun t i ht hi => ?_))
        by_cases e : i = l
        · rw [e]; exact a7 t ht
        · exact a6 t i ht (by omega)
      · intro K2 t ht ih2 I2 J2 a1 a2 a3 a4 a5 a6 a7
        rw [F_X12_findAnswers_L26]
        refine Ok.f (by rw [a5.1, n_le] <;> omega) (Ok.bxe (by omega) (by omega) (Ok.bxe (by omega) (by omega) ?_))
        rw [n_cl (by omega), (a5.2 t ht).1, (a5.2 t ht).2]
        refine Ok.call ((X12_glowing hB hfl none trivial (th t) (tl t) (hok t ht) I2 J2 a1 a2 a3.c0).fo (fr_X12_glowing _ _ I2 J2)) (fun r8 I9 J10 _ hP => ?_)
        obtain ⟨⟨p1, _⟩, t1, t2⟩ := hP
        simp only at p1 t1 t2
        rw [show (116 : Int32) = nI 116 from rfl, n_mul, nI_add, nI_1]
        refine Ok.bxe (by omega) (by omega) (Ok.lbv ?_)
        rw [n_cl (by omega)]
        refine ih2 I9 _ (a1.keep (Ag.of t1 (by decide))) (a2.keep (Ag.of t1 (by decide))) (a3.keep (Ag.of t1 (by decide))) ⟨by rw [t1 _ _ rfl]; exact a4.1, fun k hk => by rw [t1 _ _ rfl]; exact a4.2 k hk⟩ ⟨by rw [t1 _ _ rfl]; exact a5.1, fun s hs => by rw [t1 _ _ rfl, t1 _ _ rfl]; exact a5.2 s hs⟩ (fun s i hs hi => ?_) (fun s hs => ?_)
        · rw [uj_j (by omega), t2 _ _ rfl]; exact a6 s i hs hi
        · rw [uj_s]
          by_cases e : s = t
          · rw [e, if_pos rfl]; exact p1
          · rw [if_neg (by omega), t2 _ _ rfl]; exact a7 s (by omega)
    refine lp bgf 0 (Nat.zero_le _) (by unfold bgf; omega) I6 J7 (h1.keep (Ag.of s1 (by decide))) q1 (h2.keep (Ag.of s1 (by decide))) ⟨by rw [s1 _ _ rfl]; exact h3.1, fun k hk => by rw [s1 _ _ rfl]; exact h3.2 k hk⟩ ⟨by rw [s1 _ _ rfl]; exact h4.1, fun s hs => by rw [s1 _ _ rfl, s1 _ _ rfl]; exact h4.2 s hs⟩ (fun t i ht hi => by rw [s2 _ _ rfl]; exact h5 t i ht hi) (fun s h => absurd h (Nat.not_lt_zero _))
def ldQ (T N : Nat) (an : Nat → Nat → Int64) (U : Nat) (I : HI) : Prop := ∀ u i, u < U → i < N → I m_leader (116 * u + i) = nI (ldr T an u i)
theorem X12_firstOf {u i : Nat} (hu : u < 256) (hi : i < 116) {I : HI} {J : HJ} : F_X12_firstOf (nI u) (nI i) I J = some (I m_leader (116 * u + i)) := by
  unfold F_X12_firstOf
  rw [show (116 : Int32) = nI 116 from rfl, n_mul, nI_add, n_bx (by omega) (by omega), n_cl (by omega)]
theorem and_pred {x : Int32} {k : Nat} (h1 : bi x k = true) (h2 : ∀ j, j < k → bi x j = false) : x &&& (x - 1) = x &&& ((oshl (nI 1) (nI k)) ^^^ (-1 : Int32)) := by
  have hx : x ≠ 0 := fun e => by
    have e' : x = nI 0 := e
    rw [e', bi_z] at h1; cases h1
  obtain ⟨k', k1, k2, k3, k4⟩ := low32 hx
  have hk : k' = k := by
    rcases Nat.lt_trichotomy k' k with c | c | c
    · rw [h2 k' c] at k2; cases k2
    · exact c
    · rw [k3 k c] at h1; cases h1
  subst hk
  apply bi_ext
  intro j hj
  rw [bi_and, bi_and, k4, bi_not hj, show bi (oshl (nI 1) (nI k')) j = decide (j = k') from bi_one (by omega)]
  by_cases c1 : j < k'
  · rw [if_pos c1, k3 j c1]; rfl
  · rw [if_neg c1]
    by_cases c2 : j = k'
    · rw [if_pos c2, c2]; simp
    · rw [if_neg c2, decide_eq_false c2]; cases bi x j <;> rfl
theorem X12_answers_99 {T N : Nat} (hT : T ≤ 8) (hN : N ≤ 116) {an : Nat → Nat → Int64} (I0 : HI) (J : HJ) (htn : I0 m_self f_Model_testMany = nI T) (hag : I0 m_self f_Model_agreeMany = nI N) (haw : awQ T N an J) : ∀ K u, u ≤ 2 ^ T → 2 ^ T - u < K → ∀ I, Sm [(m_leader, none)] I0 I → ldQ T N an u I → Ok (F_X12_findAnswers_L99 J K (nI u) I) (fun q => q.2.2 = J ∧ Sm [(m_leader, none)] I0 q.2.1 ∧ ldQ T N an (2 ^ T) q.2.1) := by
  have hp1 : (2 : Nat) ^ T ≤ 2 ^ 8 := Nat.pow_le_pow_right (by omega) hT
  have hshl : ∀ I, Sm [(m_leader, none)] I0 I → oshl (1 : Int32) (I m_self f_Model_testMany) = nI (2 ^ T) := fun I s => by rw [s _ _ rfl, htn]; exact shl_m (by omega)
  refine up ?_ ?_
  · intro K I s1 s2
    rw [F_X12_findAnswers_L99]
    exact Ok.t (by rw [hshl I s1, n_le] <;> omega) (Ok.mk ⟨rfl, s1, s2⟩)
  · intro K u hu ih I s1 s2
    rw [F_X12_findAnswers_L99]
    refine Ok.f (by rw [hshl I s1, n_le] <;> omega) (Ok.lbv ?_)
    rw [nI_1]
    have body : ∀ (y : Int32), (u = 0 ∨ ∃ low w, y = nI low ∧ nI u &&& (nI u - (1 : Int32)) = nI w ∧ w < u ∧ low < T ∧ u = w ||| 2 ^ low) → Ok (F_X12_findAnswers_L124 (nI u) y J (fun (I25 : HI) => F_X12_findAnswers_L99 J K (nI (u + 1)) I25) bgf (0 : Int32) I) (fun q => q.2.2 = J ∧ Sm [(m_leader, none)] I0 q.2.1 ∧ ldQ T N an (2 ^ T) q.2.1) := by
      intro y hy
      have lp : ∀ K2 i, i ≤ N → N - i < K2 → ∀ I', Sm [(m_leader, none)] I0 I' → ldQ T N an u I' → (∀ i', i' < i → I' m_leader (116 * u + i') = nI (ldr T an u i')) → Ok (F_X12_findAnswers_L124 (nI u) y J (fun (I25 : HI) => F_X12_findAnswers_L99 J K (nI (u + 1)) I25) K2 (nI i) I') (fun q => q.2.2 = J ∧ Sm [(m_leader, none)] I0 q.2.1 ∧ ldQ T N an (2 ^ T) q.2.1) := by
        refine up ?_ ?_
        · intro K2 I' a1 a2 a3
          rw [F_X12_findAnswers_L124]
          refine Ok.t (by rw [a1 _ _ rfl, hag, n_le] <;> omega) (ih I' a1 (fun u' i' hu' hi' => ?_))
          by_cases e : u' = u
          · rw [e]; exact a3 i' hi'
          · exact a2 u' i' (by omega) hi'
        · intro K2 i hi ih2 I' a1 a2 a3
          obtain ⟨l1, l2, l3⟩ := ldr_p T an u i
          rw [F_X12_findAnswers_L124]
          refine Ok.f (by rw [a1 _ _ rfl, hag, n_le] <;> omega) ?_
          have fin : Ok (bx (((116 : Int32) * nI u) + nI i) 29696 <| lb (ui I' m_leader (Int32.toNatClampNeg (((116 : Int32) * nI u) + nI i)) (nI (ldr T an u i))) fun I24 => F_X12_findAnswers_L124 (nI u) y J (fun (I25 : HI) => F_X12_findAnswers_L99 J K (nI (u + 1)) I25) K2 (nI i + 1) I24) (fun q => q.2.2 = J ∧ Sm [(m_leader, none)] I0 q.2.1 ∧ ldQ T N an (2 ^ T) q.2.1) := by
            rw [show (116 : Int32) = nI 116 from rfl, n_mul, nI_add, nI_1]
            refine Ok.bxe (by omega) (by omega) (Ok.lbv ?_)
            rw [n_cl (by omega)]
            refine ih2 _ (Sm.mi rfl a1) (fun u' i' hu' hi' => ?_) (fun i' hi' => ?_)
            · rw [ui_j (by omega)]; exact a2 u' i' hu' hi'
            · rw [ui_s]
              by_cases e : i' = i
              · rw [e, if_pos rfl]
              · rw [if_neg (by omega)]; exact a3 i' (by omega)
          rcases hy with h0 | ⟨low, w, y1, y2, y3, y4, y5⟩
          · have e0 : ldr T an u i = 0 := ldr_e (by rw [h0]; exact fun t _ h => by rw [Nat.zero_testBit] at h; cases h) (fun k h => absurd h (Nat.not_lt_zero _))
            rw [e0] at fin
            show Ok (F_X12_findAnswers_L135 (nI u) y (nI i) I' J _ (999999 + 1) 0) _
            rw [F_X12_findAnswers_L135]
            exact Ok.t (show nI u ≤ nI 0 by rw [n_le] <;> omega) fin
          · subst y1
            have hal : ∀ a b, alD T an u a b ↔ alD T an w a b ∧ an low a = an low b := fun a b => by rw [y5]; exact alD_or y4
            have sc : ∀ K3 j, j ≤ ldr T an u i → ldr T an u i - j < K3 → Ok (F_X12_findAnswers_L135 (nI u) (nI low) (nI i) I' J (fun (y23 : Int32) => bx (((116 : Int32) * nI u) + nI i) 29696 <| lb (ui I' m_leader (Int32.toNatClampNeg (((116 : Int32) * nI u) + nI i)) y23) fun I24 => F_X12_findAnswers_L124 (nI u) (nI low) J (fun (I25 : HI) => F_X12_findAnswers_L99 J K (nI (u + 1)) I25) K2 (nI i + 1) I24) K3 (nI j)) (fun q => q.2.2 = J ∧ Sm [(m_leader, none)] I0 q.2.1 ∧ ldQ T N an (2 ^ T) q.2.1) := by
              have lw : ∀ k, ldr T an w k ≤ k := fun k => (ldr_p T an w k).1
              refine up ?_ ?_
              · intro K3
                obtain ⟨m1, m2⟩ := (hal _ _).mp l2
                have hli : ldr T an u i < N := by omega
                have x1 := lw i
                have x2 := lw (ldr T an u i)
                rw [F_X12_findAnswers_L135]
                refine Ok.f (show ¬ nI u ≤ nI 0 by rw [n_le] <;> omega) ?_
                rw [y2]
                refine Ok.cpe (X12_firstOf (by omega) (by omega)) (Ok.cpe (X12_firstOf (by omega) (by omega)) (Ok.lbv ?_))
                rw [a2 w _ y3 hli, a2 w i y3 hi]
                refine Ok.t (by rw [ldr_al.mpr m1]) ?_
                rw [show (116 : Int32) = nI 116 from rfl, n_mul, nI_add, nI_add]
                refine Ok.bxe (by omega) (by omega) (Ok.bxe (by omega) (by omega) ?_)
                rw [n_cl (by omega), n_cl (by omega), haw low _ y4 hli, haw low i y4 hi]
                exact Ok.t (cm0.mpr m2) fin
              · intro K3 j hj ih3
                have hjN : j < N := by omega
                have x1 := lw i
                have x2 := lw j
                rw [F_X12_findAnswers_L135]
                refine Ok.f (show ¬ nI u ≤ nI 0 by rw [n_le] <;> omega) ?_
                rw [y2]
                refine Ok.cpe (X12_firstOf (by omega) (by omega)) (Ok.cpe (X12_firstOf (by omega) (by omega)) (Ok.lbv ?_))
                rw [a2 w j y3 hjN, a2 w i y3 hi, show nI j + (1 : Int32) = nI (j + 1) from nI_1 j]
                by_cases c : ldr T an w j = ldr T an w i
                · refine Ok.t (by rw [c]) ?_
                  rw [show (116 : Int32) * nI low = nI (116 * low) from n_mul _ _, nI_add, nI_add]
                  refine Ok.bxe (by omega) (by omega) (Ok.bxe (by omega) (by omega) ?_)
                  rw [n_cl (a := 116 * low + j) (by omega), n_cl (a := 116 * low + i) (by omega), haw low j y4 hjN, haw low i y4 hi]
                  refine Ok.f (fun e => l3 j hj ((hal j i).mpr ⟨ldr_al.mp c, cm0.mp e⟩)) ih3
                · exact Ok.f (by rw [n_eq] <;> omega) ih3
            exact sc bgf 0 (Nat.zero_le _) (by unfold bgf; omega)
      exact lp bgf 0 (Nat.zero_le _) (by unfold bgf; omega) I s1 s2 (fun i' h => absurd h (Nat.not_lt_zero _))
    by_cases c : u = 0
    · exact Ok.t (show nI u = nI 0 by rw [c]) (body _ (Or.inl c))
    · refine Ok.f (show ¬ nI u = nI 0 by rw [n_eq] <;> omega) ?_
      obtain ⟨low, _, n2, n3, n4⟩ := ntNi (x := nI u) (fun e => by rw [n_eq (by omega) (by omega)] at e; omega)
      refine Ok.cpe n2 (body _ (Or.inr ?_))
      obtain ⟨w, w1, w2, w3, w4, w5, w6⟩ := rest_of hT hu n3
      exact ⟨low, w, rfl, (and_pred n3 n4).trans w1, w2, w4, w5⟩

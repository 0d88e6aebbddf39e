/-! LAYER 2: tree, the call -/
theorem ft_ex (T N : Nat) (an : Nat → Nat → Int64) (u i : Nat) : ∃ o, ftQ T N an u i o := by
  obtain ⟨v, _, hl⟩ := ldD_ex T N an u i
  cases v with
  | zero => exact ⟨none, Or.inl ⟨hl.1, rfl⟩⟩
  | succ v =>
    have lst : ∀ n, (∃ t, t < n ∧ u.testBit t = false ∧ okT T N an u i v t ∧ ∀ s, s < t → u.testBit s = false → ¬ okT T N an u i v s) ∨ ∀ s, s < n → u.testBit s = false → ¬ okT T N an u i v s := by
      intro n
      induction n with
      | zero => exact Or.inr (fun s h => absurd h (Nat.not_lt_zero _))
      | succ n ih =>
        rcases ih with ⟨t, a, b⟩ | h
        · exact Or.inl ⟨t, by omega, b⟩
        · by_cases c : u.testBit n = false ∧ okT T N an u i v n
          · exact Or.inl ⟨n, by omega, c.1, c.2, h⟩
          · refine Or.inr (fun s hs hb hk => ?_)
            by_cases e : s = n
            · rw [e] at hb hk; exact c ⟨hb, hk⟩
            · exact h s (by omega) hb hk
    rcases lst T with ⟨t, a, b, c, d⟩ | h
    · exact ⟨some t, Or.inr ⟨v, t, hl, a, b, c, d, rfl⟩⟩
    · exact (ft_end hl h).elim
theorem X12_answers {B : Bd} (hB : OkB B) {m : Nat} {sh sl : Nat → Int32} {sg : Nat → Int64} {C : List Nat} (hCe : C = agL B m sh sl sg (nF B)) {T : Nat} (hT : T ≤ 8) {th tl : Nat → Int32} (hok : ∀ t, t < T → okS (bi (th t)) (bi (tl t))) (I : HI) (J : HJ) (hM : MB B I) (hMo : CMod I) (hS : snM B m sh sl sg I J) (hts : tsM T th tl I) : Ok (F_X12_findAnswers I J) (fun q => CMod q.2.1 ∧ agM C q.2.1 ∧ rQ T C.length (anS B C th tl) q.2.1 q.2.2) := by
  have hC : C.length ≤ 116 := by rw [hCe]; exact Nat.le_trans (agL_len B m sh sl sg (nF B)) (nF_le hB)
  have hCl : ∀ k, k < C.length → C.getD k 0 < nF B := by rw [hCe]; exact fun k hk => agL_lt hk
  have hp1 : (2 : Nat) ^ T ≤ 2 ^ 8 := Nat.pow_le_pow_right (by omega) hT
  unfold F_X12_findAnswers
  refine Ok.call ((X12_agreed hB I J hM hMo hS).fo (fr_X12_findAgreed I J)) (fun r I4 J5 _ hP => ?_)
  obtain ⟨q1, s1, s2⟩ := hP
  simp only at q1 s1 s2
  rw [← hCe] at q1
  refine X12_answers_6 hB hC hCl hT hok (fun I14 J15 a1 a2 a3 a4 a5 => ?_) bgf 0 (Nat.zero_le _) (by unfold bgf; omega) I4 J5 (hM.keep (Ag.of s1 (by decide))) (hMo.keep (Ag.of s1 (by decide))) q1 ⟨by rw [s1 _ _ rfl]; exact hts.1, fun t ht => by rw [s1 _ _ rfl, s1 _ _ rfl]; exact hts.2 t ht⟩ (fun t i _ h => absurd h (Nat.not_lt_zero _))
  have lp : ∀ K k, k ≤ 29696 → 29696 - k < K → ∀ I', Sm [(m_depth, none)] I14 I' → (∀ j, j < k → I' m_depth j = -1) → Ok (F_X12_findAnswers_L75 J15 (fun (I17 : HI) => F_X12_findAnswers_L99 J15 bgf (0 : Int32) I17) K (nI k) I') (fun q => CMod q.2.1 ∧ agM C q.2.1 ∧ rQ T C.length (anS B C th tl) q.2.1 q.2.2) := by
    refine up ?_ ?_
    · intro K I' b1 b2
      rw [F_X12_findAnswers_L75]
      refine Ok.t (show (29696 : Int32) ≤ nI 29696 by decide) ?_
      refine (X12_answers_99 hT hC I' J15 (by rw [b1 _ _ rfl]; exact a4.1) (by rw [b1 _ _ rfl]; exact a3.1) a5 bgf 0 (Nat.zero_le _) (by unfold bgf; omega) I' Sm.rf (fun u i h => absurd h (Nat.not_lt_zero _))).mono (fun q hq => ?_)
      obtain ⟨c1, c2, c3⟩ := hq
      exact ⟨(a2.keep (Ag.of b1 (by decide))).keep (Ag.of c2 (by decide)), (a3.keep (Ag.of b1 (by decide))).keep (Ag.of c2 (by decide)), by rw [c2 _ _ rfl, b1 _ _ rfl]; exact a3.1, by rw [c2 _ _ rfl, b1 _ _ rfl]; exact a4.1, c3, by rw [c1]; exact a5, fun u i hu hi => Or.inl (by rw [c2 _ _ rfl]; exact b2 _ (by omega))⟩
    · intro K k hk ih I' b1 b2
      rw [F_X12_findAnswers_L75]
      refine Ok.f (show ¬ (29696 : Int32) ≤ nI k from (by rw [n_le (by omega) (by omega)]; omega : ¬ nI 29696 ≤ nI k)) (Ok.bxe (by omega) (by omega) (Ok.lbv ?_))
      rw [n_cl (by omega), nI_1]
      refine ih _ (Sm.mi rfl b1) (fun j hj => ?_)
      rw [ui_s]
      by_cases e : j = k
      · rw [if_pos e]
      · rw [if_neg e]; exact b2 j (by omega)
  exact lp bgf 0 (Nat.zero_le _) (by unfold bgf; omega) I14 Sm.rf (fun j h => absurd h (Nat.not_lt_zero _))
def wjG : Pl := (129, none) :: (130, none) :: wj_X5_grow
def wjT : Pl := (129, none) :: (130, none) :: wj_X11_tree
/-- either way to grow -/
def grO (gr : HI → HJ → Option (Unit × HI × HJ)) : Prop := (∀ I J, Fo wi_X5_grow wjG I J (gr I J)) ∧ ∀ (B : Bd) (C : List Nat) (T : Nat) (th tl : Nat → Int32) (I : HI) (J : HJ), OkB B → C.length ≤ 116 → 0 < C.length → (∀ k, k < C.length → C.getD k 0 < nF B) → T ≤ 8 → (∀ t, t < T → okS (bi (th t)) (bi (tl t))) → XB B I J → CFlow I J → agX C I → tsX T th tl I → Ok (gr I J) (fun q => CFlow q.2.1 q.2.2 ∧ agX C q.2.1 ∧ tsX T th tl q.2.1 ∧ ∃ G gp bn, plQ T C.length (anS B C th tl) G gp bn q.2.1 q.2.2)
theorem gr_t : grO F_X5_grow := by
  refine ⟨fun I J r I' J' e => ?_, fun B C T th tl I J h1 h2 h3 h4 h5 h6 h7 h8 h9 h10 => ?_⟩
  · obtain ⟨a, b⟩ := fr_X5_grow I J r I' J' e
    exact ⟨a, Sm.tr (by decide) Sm.rf b⟩
  · unfold F_X5_grow
    exact Ok.lbv (Ok.f (by decide) (X5_grow h1 h2 h3 h4 h5 h6 I J h7 h8 h9 h10))
theorem growf_e (I : HI) (J : HJ) : F_X5_growf I J = F_X5_grow_C26 (uf (uf I 129 (fun _ => 0)) 130 (fun _ => 0)) (ufj (ufj J 129 (fun _ => 0)) 130 (fun _ => 0)) := by
  unfold F_X5_growf
  rw [if_pos rfl]
  exact (lb_e _ _).trans ((lb_e _ _).trans ((lb_e _ _).trans (lb_e _ _)))
theorem gr_f : grO F_X5_growf := by
  refine ⟨fun I J r I' J' e => ?_, fun B C T th tl I J h1 h2 h3 h4 h5 h6 h7 h8 h9 h10 => ?_⟩
  · rw [growf_e] at e
    obtain ⟨a, b⟩ := fr_X5_grow_C26 (uf (uf I 129 (fun _ => 0)) 130 (fun _ => 0)) (ufj (ufj J 129 (fun _ => 0)) 130 (fun _ => 0)) _ _ Sm.rf Sm.rf r I' J' e
    have s1 : Sm wi_X5_grow I (uf (uf I 129 (fun _ => 0)) 130 (fun _ => 0)) := Sm.mf (fun _ => rfl) (Sm.mf (fun _ => rfl) Sm.rf)
    have s2 : Sm wjG J (ufj (ufj J 129 (fun _ => 0)) 130 (fun _ => 0)) := Sm.mfj (fun _ => rfl) (Sm.mfj (fun _ => rfl) Sm.rf)
    exact ⟨Sm.tr (by decide) s1 a, Sm.tr (by decide) s2 b⟩
  · rw [growf_e]
    have s1 : Sm [(129, none), (130, none)] I (uf (uf I 129 (fun _ => 0)) 130 (fun _ => 0)) := Sm.mf (fun _ => rfl) (Sm.mf (fun _ => rfl) Sm.rf)
    have s2 : Sm [(129, none), (130, none)] J (ufj (ufj J 129 (fun _ => 0)) 130 (fun _ => 0)) := Sm.mfj (fun _ => rfl) (Sm.mfj (fun _ => rfl) Sm.rf)
    exact X5_grow h1 h2 h3 h4 h5 h6 _ _ (h7.keep (Ag.of s1 (by decide)) (Ag.of s2 (by decide))) (h8.keep (Ag.of s1 (by decide)) (Ag.of s2 (by decide))) (h9.keep (Ag.of s1 (by decide))) ⟨by rw [s1 _ _ rfl]; exact h10.1, fun t ht => by rw [s1 _ _ rfl, s1 _ _ rfl]; exact h10.2 t ht⟩
def trC (gr : HI → HJ → Option (Unit × HI × HJ)) (I : HI) (J : HJ) : Option (Int32 × HI × HJ) :=
  cl (F_X7_gather I J) fun _ I1 J2 =>
  if (I1 x_suspects f_Suspects_agreeing) = 0 then
    some ((-2 : Int32), I1, J2)
  else
    cl (gr I1 J2) fun _ I3 J4 =>
    F_X11_tree_C27 I3 J4
theorem fr_trC {gr : HI → HJ → Option (Unit × HI × HJ)} (hg : grO gr) (I : HI) (J : HJ) : Fo wi_X11_tree wjT I J (trC gr I J) := by
  unfold trC
  refine Fo.call (fr_X7_gather I J) (by decide) (by decide) Sm.rf Sm.rf (fun _ I1 J2 hI1 hJ2 => ?_)
  refine Fo.ite (Fo.some hI1 hJ2) ?_
  refine Fo.call (hg.1 I1 J2) (by decide) (by decide) hI1 hJ2 (fun _ I3 J4 hI3 hJ4 => ?_)
  intro r I' J' e
  obtain ⟨a, b⟩ := fr_X11_tree_C27 I3 J4 I3 J4 Sm.rf Sm.rf r I' J' e
  exact ⟨Sm.tr (by decide) hI3 a, Sm.tr (by decide) hJ4 b⟩
theorem tree_both {n : Nat} {b : Bool} {I : HI} {J : HJ} {B : Bd} {nb : Nat} (h : IV (n + 1) B nb I J) {gr : HI → HJ → Option (Unit × HI × HJ)} (hg : grO gr) : ∃ r I1 J1 I2 J2, trC gr I J = some (r, I1, J1) ∧ F_X12_tree I1 J1 = some (r, I2, J2) ∧ Iv n b I2 J2 := by
  have hB := h.1
  have hX := h.2.1
  have hTF := h.2.2.2.2.2.2.2.2.2
  obtain ⟨m, sh, sl, sg, hSx, hSm⟩ := h.2.2.2.2.1.sn
  obtain ⟨C, hCe⟩ : ∃ C, C = agL B m sh sl sg (nF B) := ⟨_, rfl⟩
  have hC : C.length ≤ 116 := by rw [hCe]; exact Nat.le_trans (agL_len B m sh sl sg (nF B)) (nF_le hB)
  have hCl : ∀ k, k < C.length → C.getD k 0 < nF B := by rw [hCe]; exact fun k hk => agL_lt hk
  obtain ⟨T, hT, pT1, pT2, pT3⟩ := h.2.2.2.2.2.2.1
  obtain ⟨th, hth⟩ : ∃ th, th = I x_plan_testHigh := ⟨_, rfl⟩
  obtain ⟨tl, htl⟩ : ∃ tl, tl = I x_plan_testLow := ⟨_, rfl⟩
  have hok : ∀ t, t < T → okS (bi (th t)) (bi (tl t)) := fun t ht => by rw [hth, htl]; exact (pT3 t ht).2.2.1
  have hts : tsX T th tl I := ⟨pT1, fun t _ => ⟨by rw [hth], by rw [htl]⟩⟩
  have hp1 : (2 : Nat) ^ T ≤ 2 ^ 8 := Nat.pow_le_pow_right (by omega) hT
  have hp0 : 0 < (2 : Nat) ^ T := Nat.pow_pos (by omega)
  have al0 : ∀ (bn : Nat → Nat → Int64) i j, alD T bn 0 i j := fun bn i j t _ hb => by rw [Nat.zero_testBit] at hb; cases hb
  obtain ⟨v, hv, hl⟩ := ldD_ex T C.length (anS B C th tl) 0 0
  obtain ⟨o, ho⟩ := ft_ex T C.length (anS B C th tl) 0 0
  obtain ⟨G0, hG0⟩ : ∃ G0, G0 = pcP C.length (fun i => decide (ldr T (anS B C th tl) (flM T) i = i)) := ⟨_, rfl⟩
  refine srch h (fr_trC hg I J) (fun I1 J1 => fr_X12_tree I1 J1) (by decide) (if C.length = 0 then -2 else nI v) (if C.length = 0 then none else some [Int32.toInt64 (ftI o), Int32.toInt64 (nI G0)]) ?_ ?_
  · unfold trC
    refine Ok.call ((X7_gather hB I J hX hTF.2.1 hSx).fo (fr_X7_gather I J)) (fun r I1 J2 _ hP => ?_)
    obtain ⟨⟨q1, q2⟩, s1, s2⟩ := hP
    simp only at q1 q2 s1 s2
    rw [← hCe] at q1
    have hX1 : XB B I1 J2 := hX.keep (Ag.of s1 (by decide)) (Ag.of s2 (by decide))
    have hT1 : CTab B I1 J2 := hTF.1.keep (Ag.of s1 (by decide)) (Ag.of s2 (by decide))
    rw [q1.1]
    by_cases c0 : C.length = 0
    · rw [if_pos c0, if_pos c0]
      exact Ok.t (by rw [c0]; rfl) (Ok.mk ⟨rfl, hT1, q2, toX_o s1 s2 (by decide) (by decide)⟩)
    · rw [if_neg c0, if_neg c0]
      refine Ok.f (show ¬ nI C.length = nI 0 by rw [n_eq] <;> omega) ?_
      refine Ok.call ((hg.2 B C T th tl I1 J2 hB hC (by omega) hCl hT hok hX1 q2 q1 ⟨by rw [s1 _ _ rfl]; exact hts.1, fun t ht => by rw [s1 _ _ rfl, s1 _ _ rfl]; exact hts.2 t ht⟩).fo (hg.1 I1 J2)) (fun r I3 J4 _ hP => ?_)
      obtain ⟨⟨p1, p2, p3, G, gp, bn, g1, g2, g3⟩, t1, t2⟩ := hP
      simp only at p1 p2 p3 g1 g2 g3 t1 t2
      have hGl : G ≤ 116 := by have := g1.2.1; omega
      have hbs := g1.2.2.2.2.1
      have h00 := hbs.1 0 (by omega)
      have hGG : G = G0 := by rw [hG0]; exact g1.2.2.2.2.2.2
      unfold F_X11_tree_C27
      refine clr1 (fun I5 k1 k2 => ?_)
      have hg5 : I5 x_plan f_Plan_groups = nI G := by rw [k2 _ _ rfl]; exact g1.1
      have hc5 : clQ T G bn (2 ^ T) I5 := fun u hu => ⟨fun g hg' => by rw [k2 _ _ rfl]; exact (g2 u hu).1 g hg', by rw [k2 _ _ rfl]; exact (g2 u hu).2⟩
      have hd5 : dpQ T G bn 0 I5 := fun u a b' g hg' hl' => by rw [k2 _ _ rfl]; exact g3 u a b' g hg' hl'
      obtain ⟨o', e1, e2⟩ := X5_first (J := J4) (u := 0) (g := 0) hT hGl hp0 (by omega) hg5 (by rw [k2 _ _ rfl]; exact p3.1) hc5 hd5
      have hoo : o' = o := ftQ_u ((ft_bi hbs (by omega)).mpr (ftQ_al (by omega) h00.1 (al0 bn 0 (gp 0)) e2)) ho
      refine Ok.cpe e1 (add1 k1 (by simp) (fun I8 J9 k3 k4 k5 => ?_))
      rw [k4 x_plan f_Plan_groups rfl, hg5]
      refine add1 k3 (by simp) (fun I10 J11 k6 k7 k8 => ?_)
      obtain ⟨v', f1, f2⟩ := X5_depthAt (J := J11) (I := I10) (U := 0) (u := 0) (g := 0) (bn := bn) hT hGl (Nat.zero_le _) hp0 (by omega) (fun u hu => ⟨fun g hg' => by rw [k7 _ _ rfl, k4 _ _ rfl]; exact (hc5 u hu).1 g hg', by rw [k7 _ _ rfl, k4 _ _ rfl]; exact (hc5 u hu).2⟩) (fun u a b' g hg' hl' => by rw [k7 _ _ rfl, k4 _ _ rfl]; exact hd5 u a b' g hg' hl')
      have hvv : v' = v := ldD_u ((ld_bi hbs (by omega)).mpr (ldD_al (by omega) h00.1 (al0 bn 0 (gp 0)) f2)) hl
      refine Ok.cpe f1 ?_
      have sI : Sm [(x_told, some f_Told_size)] I3 I10 := Sm.tr (by decide) (Sm.tr (by decide) k2 k4) k7
      have sJ : Sm [(x_told_numbers, none)] J4 J11 := Sm.tr (by decide) k5 k8
      refine Ok.mk ⟨by dsimp only; rw [hvv], (hT1.keep (Ag.of t1 (by decide)) (Ag.of t2 (by decide))).keep (Ag.of sI (by decide)) (Ag.of sJ (by decide)), p1.keep (Ag.of sI (by decide)) (Ag.of sJ (by decide)), ?_⟩
      rw [hoo, hGG] at k6
      exact k6
  · intro I1 J1 hM hMo u1 u2
    have sT := th_s I1 0
    have hM2 : MB B (ui I1 m_self f_Model_thrown 0) := hM.keep (Ag.of sT (by decide))
    unfold F_X12_tree
    refine Ok.lbv ?_
    refine Ok.call ((X12_answers hB hCe hT hok _ J1 hM2 (hMo.keep (Ag.of sT (by decide))) (hSm.keep (Ag.two u1 sT (by decide) (by decide)) (Ag.of u2 (by decide))) ⟨by rw [sT _ _ rfl, u1 _ _ rfl]; exact pT2, fun t ht => by rw [sT _ _ rfl, u1 _ _ rfl, sT _ _ rfl, u1 _ _ rfl, (pT3 t ht).1, (pT3 t ht).2.1, hth, htl]; exact ⟨rfl, rfl⟩⟩).fo (fr_X12_findAnswers _ J1)) (fun r I6 J7 _ hP => ?_)
    obtain ⟨⟨p1, p2, p3⟩, t1, t2⟩ := hP
    simp only at p1 p2 p3 t1 t2
    rw [p2.1]
    by_cases c0 : C.length = 0
    · rw [if_pos c0, if_pos c0]
      exact Ok.t (by rw [c0]; rfl) (Ok.mk ⟨rfl, p1, toM_2 sT t1 t2 (by decide) (by decide) (by decide)⟩)
    · rw [if_neg c0, if_neg c0]
      refine Ok.f (show ¬ nI C.length = nI 0 by rw [n_eq] <;> omega) (Ok.lbv ?_)
      rw [p3.2.1, show oshl (1 : Int32) (nI T) = nI (2 ^ T) from shl_m (by omega), show nI (2 ^ T) - (1 : Int32) = nI (2 ^ T - 1) from n_sub (b := 1) (by omega)]
      have lp : ∀ (kx : Int32 → Option (Int32 × HI × HJ)) (Q : Int32 × HI × HJ → Prop), Ok (kx (nI G0)) Q → ∀ K k, k ≤ C.length → C.length - k < K → Ok (F_X12_tree_L32 (nI (2 ^ T - 1)) I6 J7 kx K (nI (pcP k (fun i => decide (ldr T (anS B C th tl) (flM T) i = i)))) (nI k)) Q := by
        intro kx Q hx
        refine up ?_ ?_
        · intro K
          rw [F_X12_tree_L32, p2.1]
          refine Ok.t (by rw [n_le] <;> omega) ?_
          rw [← hG0]; exact hx
        · intro K k hk ih
          have lk := (ldr_p T (anS B C th tl) (flM T) k).1
          rw [F_X12_tree_L32, p2.1]
          refine Ok.f (by rw [n_le] <;> omega) (Ok.cpe (X12_firstOf (by omega) (by omega)) (Ok.lbv ?_))
          rw [p3.2.2.1 _ k (by omega) hk, show nI k + (1 : Int32) = nI (k + 1) from nI_1 k]
          rw [pcP_s] at ih
          by_cases c : ldr T (anS B C th tl) (flM T) k = k
          · rw [decide_eq_true c, if_pos rfl] at ih
            refine Ok.t (show nI (ldr T (anS B C th tl) (2 ^ T - 1) k) = nI k by rw [show ldr T (anS B C th tl) (2 ^ T - 1) k = k from c]) (Ok.lbv ?_)
            rw [nI_1]; exact ih
          · rw [decide_eq_false c, if_neg (by decide)] at ih
            refine Ok.f (show ¬ nI (ldr T (anS B C th tl) (flM T) k) = nI k by rw [n_eq] <;> omega) (Ok.lbv ?_)
            rw [show (0 : Int32) = nI 0 from rfl, nI_add]; exact ih
      refine lp _ _ ?_ bgf 0 (Nat.zero_le _) (by unfold bgf; omega)
      refine Ok.call (X12_depthOf hT hC J7 20 0 0 I6 hp0 (by omega) (by have := pcP_le T (fun s => !(0 : Nat).testBit s); omega) p3) (fun r15 I16 J17 _ hP => ?_)
      obtain ⟨v', w1, w2, w3, w4, w5⟩ := hP
      simp only at w1 w3 w4 w5
      subst w3
      have hr16 := p3.kd w4 w5
      refine Ok.call (X12_first (u := 0) (i := 0) hT hC hp0 (by omega) I16 J17 hr16) (fun r18 I19 J20 _ hP => ?_)
      obtain ⟨o', x1, x2, x3, x4, x5⟩ := hP
      simp only at x1 x3 x4 x5
      subst x3
      have hoo : o' = o := ftQ_u x2 ho
      have hvv : v' = v := ldD_u w2 hl
      refine clrM (J := J20) (fun I21 k1 k2 => tel1 k1 (by simp) (fun I22 J23 k3 k4 k5 => tel1 k3 (by simp) (fun I24 J25 k6 k7 k8 => ?_)))
      refine Ok.mk ⟨by dsimp only; rw [w1, hvv], ?_, ?_⟩
      · exact ((((p1.keep (Ag.of w4 (by decide))).keep (Ag.of x4 (by decide))).k1 k2).k1 k4).k1 k7
      · rw [x1, hoo] at k6; exact k6
theorem OP42 (n : Nat) (b : Bool) (I : HI) (J : HJ) (a1 a2 a3 a4 : Int32) (h : Iv (n + 1) b I J) : Op42 (Iv n) b I J a1 a2 a3 a4 := by
  obtain ⟨B, nb, h⟩ := h
  refine ⟨fun _ => tree_both h gr_t, fun _ => ?_⟩
  obtain ⟨r, I1, J1, I2, J2, e1, e2, e3⟩ := tree_both (b := true) h gr_f
  have e : ∃ b', F_X11_treef I J = some (b', r, I1, J1) := by
    unfold trC at e1
    unfold F_X11_treef
    unfold cl at e1 ⊢
    cases hg : F_X7_gather I J with
    | none => rw [hg] at e1; cases e1
    | some q =>
      rw [hg] at e1
      simp only [Option.bind_some] at e1 ⊢
      by_cases c : q.2.1 x_suspects f_Suspects_agreeing = 0
      · rw [if_pos c] at e1 ⊢
        injection e1 with e1
        injection e1 with x1 x2
        injection x2 with x2 x3
        exact ⟨false, by rw [x1, x2, x3]⟩
      · rw [if_neg c] at e1 ⊢
        cases hgr : F_X5_growf q.2.1 q.2.2 with
        | none => rw [hgr] at e1; cases e1
        | some p =>
          rw [hgr] at e1
          simp only [Option.bind_some] at e1 ⊢
          rw [e1]
          exact ⟨true, rfl⟩
  obtain ⟨b', e⟩ := e
  exact ⟨b', r, I1, J1, I2, J2, e, e2, e3⟩

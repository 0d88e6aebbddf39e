/-! LAYER 2: tree: grown -/
theorem X5_reckon {T G : Nat} (hT : T ≤ 8) (hG : G ≤ 116) {bn : Nat → Nat → Int64} (hdst : ∀ g g', g < G → g' < G → (∀ t, t < T → bn t g = bn t g') → g = g') {u : Nat} (hu : u < 2 ^ T) (I : HI) (J : HJ) (hg : I x_plan f_Plan_groups = nI G) (htn : I x_plan f_Plan_tests = nI T) (hc : clQ T G bn (2 ^ T) I) (hd : dpQ T G bn (u + 1) I) : Ok (F_X5_reckonDepths (nI u) I J) (fun q => q.2.2 = J ∧ Sm [(x_plan_sizes, none), (x_plan_worst, none), (p_depths, none)] I q.2.1 ∧ dpQ T G bn u q.2.1) := by
  have h1 : (2 : Nat) ^ T ≤ 2 ^ 8 := Nat.pow_le_pow_right (by omega) hT
  unfold F_X5_reckonDepths F_X5_place
  refine Ok.cpe rfl ?_
  rw [show (116 : Int32) = nI 116 from rfl, n_mul, show nI (u * 116) + (0 : Int32) = nI (u * 116 + 0) from nI_add _ _, Nat.add_zero, Nat.mul_comm]
  refine Ok.call (fl_x_plan_sizes 0 I J) (fun r I4 J5 _ hP => ?_)
  obtain ⟨f1, f2, f3⟩ := hP
  simp only at f1 f2 f3
  subst f1
  have fin : ∀ I', Sm [(x_plan_sizes, none), (x_plan_worst, none), (p_depths, none)] I I' → dpQ T G bn (u + 1) I' → (∀ g, g < G → ldr T bn u g = g → ∃ v, I' p_depths (116 * u + g) = nI v ∧ ldD T G bn u g v) → dpQ T G bn u I' := by
    intro I' _ a b u' x y g' hg' hl'
    by_cases c : u' = u
    · rw [c] at hl' ⊢; exact b g' hg' hl'
    · exact a u' (by omega) y g' hg' hl'
  have single : ∀ g, g < G → ldr T bn u g = g → szP T G bn u g ≤ 1 → ldD T G bn u g 0 := fun g hgg hl hs => ⟨fun t ht j hj ha => by rw [sz_one hgg hj hl hs ha], fun w h => absurd h (Nat.not_lt_zero _)⟩
  have l89 : ∀ K t, t ≤ T → T - t < K → ∀ I', Sm [(x_plan_sizes, none), (x_plan_worst, none), (p_depths, none)] I I' → (∀ g, g < G → I' x_plan_sizes g = nI (szP T G bn u g)) → dpQ T G bn (u + 1) I' → stD T G bn u t I' → Ok (F_X5_reckonDepths_L89 (nI u) (nI (116 * u)) K (nI t) I' J5) (fun q => q.2.2 = J5 ∧ Sm [(x_plan_sizes, none), (x_plan_worst, none), (p_depths, none)] I q.2.1 ∧ dpQ T G bn u q.2.1) := by
    refine up ?_ ?_
    · intro K I' s1 s2 s3 s4
      rw [F_X5_reckonDepths_L89]
      refine Ok.t (by rw [s1 _ _ rfl, htn, n_le] <;> omega) (Ok.mk ⟨rfl, s1, fin I' s1 s3 (fun g hgg hl => ?_)⟩)
      by_cases c : szP T G bn u g ≤ 1
      · exact ⟨0, (s4 g hgg).1 c, single g hgg hl c⟩
      · obtain ⟨v, v1, v2, v3, v4⟩ := (s4 g hgg).2 c
        obtain ⟨_, j, j1, j2, j3⟩ := sz_two c
        refine ⟨v, v2, ldD_fin hgg hT v1 (fun h0 => j2 (hdst j g j1 hgg (fun t ht => h0 t ht j j1 j3))) v3 (fun t ht htb _ w hw => v4 t ht htb w hw)⟩
    · intro K t ht ih I' s1 s2 s3 s4
      have hcI : clQ T G bn (2 ^ T) I' := fun u' hu' => ⟨fun g' hg' => by rw [s1 _ _ rfl]; exact (hc u' hu').1 g' hg', by rw [s1 _ _ rfl]; exact (hc u' hu').2⟩
      have hpl : pcP G (fun g => decide (ldr T bn u g = g)) ≤ G := pcP_le G _
      rw [F_X5_reckonDepths_L89]
      refine Ok.f (by rw [s1 _ _ rfl, htn, n_le] <;> omega) (Ok.bxe (by omega) (by omega) ?_)
      rw [n_cl (by omega), (hcI u hu).2, s1 x_plan f_Plan_groups rfl, hg]
      by_cases cp : G ≤ pcP G (fun g => decide (ldr T bn u g = g))
      · refine Ok.t (by rw [n_le] <;> omega) (Ok.mk ⟨rfl, s1, fin I' s1 s3 (fun g hgg hl => ?_)⟩)
        have hall : ∀ j, j < G → ldr T bn u j = j := by
          intro j hj
          cases hb : decide (ldr T bn u j = j) with
          | true => exact of_decide_eq_true hb
          | false =>
            have := pcP_del (n := G) (k := j) (p := fun k => decide (ldr T bn u k = k) || decide (k = j)) hj (by simp)
            have e : (fun k => (decide (ldr T bn u k = k) || decide (k = j)) && !decide (k = j)) = (fun k => decide (ldr T bn u k = k)) := by
              funext k
              by_cases d : k = j
              · subst d; rw [hb]; simp
              · simp [d]
            rw [e] at this
            have := pcP_le G (fun k => decide (ldr T bn u k = k) || decide (k = j))
            omega
        have hs1 : szP T G bn u g ≤ 1 := by
          by_cases c : szP T G bn u g ≤ 1
          · exact c
          · obtain ⟨_, j, j1, j2, j3⟩ := sz_two c
            have := ldr_al.mpr j3
            rw [hall g hgg, hall j j1] at this
            exact absurd this.symm j2
        exact ⟨0, (s4 g hgg).1 hs1, single g hgg hl hs1⟩
      · refine Ok.f (by rw [n_le] <;> omega) (Ok.lbv ?_)
        rw [show nI t + (1 : Int32) = nI (t + 1) from nI_1 t, show (1 : Int32) = nI 1 from rfl, t_iu (by omega), bi_n (by omega)]
        cases hb : u.testBit t with
        | true =>
          refine Ok.f (by decide) (ih I' s1 s2 s3 (fun g hgg => ⟨(s4 g hgg).1, fun h => ?_⟩))
          obtain ⟨v, v1, v2, v3, v4⟩ := (s4 g hgg).2 h
          refine ⟨v, v1, v2, v3, fun s hs hsb w hw => ?_⟩
          by_cases e : s = t
          · rw [e, hb] at hsb; cases hsb
          · exact v4 s (by omega) hsb w hw
        | false =>
          refine Ok.t rfl ?_
          rw [(bit_or hT hu ht).1]
          refine Ok.call (X5_tryTest hT hG hu ht hb I' J5 (by rw [s1 _ _ rfl]; exact hg) hcI s3 s2 s4) (fun r I16 J17 _ hP => ?_)
          obtain ⟨p1, p2, p3, p4⟩ := hP
          simp only at p1 p2 p3 p4
          subst p1
          exact ih I16 (Sm.tr (by decide) s1 p2) (fun g hgg => by rw [p2 _ _ rfl]; exact s2 g hgg) p3 p4
  have l49 : ∀ K g, g ≤ G → G - g < K → ∀ I', Sm [(x_plan_sizes, none), (p_depths, none)] I I' → (∀ g, g < G → I' x_plan_sizes g = nI (szP T G bn u g)) → dpQ T G bn (u + 1) I' → (∀ g', g' < g → I' p_depths (116 * u + g') = if szP T G bn u g' ≤ 1 then nI 0 else nI 8) → Ok (F_X5_reckonDepths_L49 (nI u) (nI (116 * u)) J5 (fun (I12 : HI) => F_X5_reckonDepths_L89 (nI u) (nI (116 * u)) bgf (0 : Int32) I12 J5) K (nI g) I') (fun q => q.2.2 = J5 ∧ Sm [(x_plan_sizes, none), (x_plan_worst, none), (p_depths, none)] I q.2.1 ∧ dpQ T G bn u q.2.1) := by
    refine up ?_ ?_
    · intro K I' s1 s2 s3 s4
      rw [F_X5_reckonDepths_L49]
      refine Ok.t (by rw [s1 _ _ rfl, hg, n_le] <;> omega) (l89 bgf 0 (Nat.zero_le _) (by unfold bgf; omega) I' (Sm.tr (by decide) Sm.rf s1) s2 s3 (fun g hgg => ⟨fun h => ?_, fun h => ⟨8, by omega, ?_, fun h => absurd h (by omega), fun s h => absurd h (Nat.not_lt_zero _)⟩⟩))
      · rw [s4 g hgg, if_pos h]
      · rw [s4 g hgg, if_neg h]
    · intro K g hgg ih I' s1 s2 s3 s4
      have hsl : szP T G bn u g ≤ G := pcP_le G _
      rw [F_X5_reckonDepths_L49]
      refine Ok.f (by rw [s1 _ _ rfl, hg, n_le] <;> omega) (Ok.bxe (by omega) (by omega) (Ok.lbv ?_))
      rw [n_cl (by omega), s2 g hgg, nI_add, nI_1]
      have body : ∀ y, y = (if szP T G bn u g ≤ 1 then nI 0 else nI 8) → Ok (bx (nI (116 * u + g)) 29696 <| lb (ui I' p_depths (Int32.toNatClampNeg (nI (116 * u + g))) y) fun I11 => F_X5_reckonDepths_L49 (nI u) (nI (116 * u)) J5 (fun (I12 : HI) => F_X5_reckonDepths_L89 (nI u) (nI (116 * u)) bgf (0 : Int32) I12 J5) K (nI (g + 1)) I11) (fun q => q.2.2 = J5 ∧ Sm [(x_plan_sizes, none), (x_plan_worst, none), (p_depths, none)] I q.2.1 ∧ dpQ T G bn u q.2.1) := by
        intro y hy
        refine Ok.bxe (by omega) (by omega) (Ok.lbv ?_)
        rw [n_cl (by omega)]
        refine ih _ (Sm.mi rfl s1) (fun g' hg' => by rw [ui_c (by decide)]; exact s2 g' hg') (fun u' a b g' hg' hl' => by rw [ui_j (by omega)]; exact s3 u' a b g' hg' hl') (fun g' hg' => ?_)
        rw [ui_s]
        by_cases e : g' = g
        · rw [e, if_pos rfl, hy]
        · rw [if_neg (by omega)]; exact s4 g' (by omega)
      by_cases c : szP T G bn u g ≤ 1
      · exact Ok.t (show nI (szP T G bn u g) ≤ (1 : Int32) from (by rw [n_le (by omega) (by omega)]; exact c : nI (szP T G bn u g) ≤ nI 1)) (body 0 (by rw [if_pos c]; rfl))
      · exact Ok.f (show ¬ nI (szP T G bn u g) ≤ (1 : Int32) from (by rw [n_le (by omega) (by omega)]; exact c : ¬ nI (szP T G bn u g) ≤ nI 1)) (body 8 (by rw [if_neg c]; rfl))
  have l16 : ∀ K g, g ≤ G → G - g < K → ∀ I', Sm [(x_plan_sizes, none)] I I' → (∀ c, c < G → I' x_plan_sizes c = nI (pcP g (fun g' => decide (ldr T bn u g' = c)))) → Ok (F_X5_reckonDepths_L16 (nI u) (nI (116 * u)) J5 (fun (I7 : HI) => F_X5_reckonDepths_L49 (nI u) (nI (116 * u)) J5 (fun (I12 : HI) => F_X5_reckonDepths_L89 (nI u) (nI (116 * u)) bgf (0 : Int32) I12 J5) bgf (0 : Int32) I7) K (nI g) I') (fun q => q.2.2 = J5 ∧ Sm [(x_plan_sizes, none), (x_plan_worst, none), (p_depths, none)] I q.2.1 ∧ dpQ T G bn u q.2.1) := by
    refine up ?_ ?_
    · intro K I' s1 s2
      rw [F_X5_reckonDepths_L16]
      exact Ok.t (by rw [s1 _ _ rfl, hg, n_le] <;> omega) (l49 bgf 0 (Nat.zero_le _) (by unfold bgf; omega) I' (Sm.tr (by decide) Sm.rf s1) s2 (fun u' a b g' hg' hl' => by rw [s1 _ _ rfl]; exact hd u' a b g' hg' hl') (fun g' h => absurd h (Nat.not_lt_zero _)))
    · intro K g hgg ih I' s1 s2
      obtain ⟨l1, _, _⟩ := ldr_p T bn u g
      have hpl : pcP g (fun g' => decide (ldr T bn u g' = ldr T bn u g)) ≤ g := pcP_le g _
      rw [F_X5_reckonDepths_L16]
      refine Ok.f (by rw [s1 _ _ rfl, hg, n_le] <;> omega) ?_
      rw [nI_add]
      refine Ok.bxe (by omega) (by omega) ?_
      rw [n_cl (a := 116 * u + g) (by omega), s1 p_cells _ rfl, (hc u hu).1 g hgg]
      refine Ok.bxe (by omega) (by omega) (Ok.bxe (by omega) (by omega) (Ok.lbv ?_))
      rw [n_cl (by omega), s2 _ (by omega), nI_1, nI_1]
      refine ih _ (Sm.mi rfl s1) (fun c hc' => ?_)
      rw [ui_s, pcP_s]
      by_cases e : c = ldr T bn u g
      · rw [if_pos e, e, decide_eq_true rfl]; simp
      · rw [if_neg e, decide_eq_false (fun h => e h.symm)]; simp; exact s2 c hc'
  exact l16 bgf 0 (Nat.zero_le _) (by unfold bgf; omega) I4 f3 (fun c hc' => f2 c (by omega))
/-- the plan, grown -/
def plQ (T N : Nat) (an : Nat → Nat → Int64) (G : Nat) (gp : Nat → Nat) (bn : Nat → Nat → Int64) (I : HI) (J : HJ) : Prop := gsX T N an G gp bn I J ∧ clQ T G bn (2 ^ T) I ∧ dpQ T G bn 0 I
theorem gsX.keep {T l : Nat} {an : Nat → Nat → Int64} {G : Nat} {gp : Nat → Nat} {bn : Nat → Nat → Int64} {I I' : HI} {J J' : HJ} (h : gsX T l an G gp bn I J) (a : Ag [(x_plan, some f_Plan_groups), (x_plan_groupOf, none)] I I') (b : Ag [(x_plan_shown, none)] J J') : gsX T l an G gp bn I' J' := by
  obtain ⟨h1, h2, h3, h4, h5⟩ := h
  exact ⟨by rw [a _ _ rfl]; exact h1, h2, fun i hi => by rw [a _ _ rfl]; exact h3 i hi, fun g t hg ht => by rw [b _ _ rfl]; exact h4 g t hg ht, h5⟩
theorem X5_grow {B : Bd} (hB : OkB B) {C : List Nat} (hC : C.length ≤ 116) (hC0 : 0 < C.length) (hCl : ∀ k, k < C.length → C.getD k 0 < nF B) {T : Nat} (hT : T ≤ 8) {th tl : Nat → Int32} (hok : ∀ t, t < T → okS (bi (th t)) (bi (tl t))) (I : HI) (J : HJ) (h1 : XB B I J) (h2 : CFlow I J) (h3 : agX C I) (h4 : tsX T th tl I) : Ok (F_X5_grow_C26 I J) (fun q => CFlow q.2.1 q.2.2 ∧ agX C q.2.1 ∧ tsX T th tl q.2.1 ∧ ∃ G gp bn, plQ T C.length (anS B C th tl) G gp bn q.2.1 q.2.2) := by
  have hp1 : (2 : Nat) ^ T ≤ 2 ^ 8 := Nat.pow_le_pow_right (by omega) hT
  have hp0 : 0 < (2 : Nat) ^ T := Nat.pow_pos (by omega)
  unfold F_X5_grow_C26
  refine Ok.lbv ?_
  have s26 : Sm [(x_plan, some f_Plan_groups)] I (ui I x_plan f_Plan_groups 0) := Sm.mi rfl Sm.rf
  refine X5_grow_33 hB hC hCl hT hok (fun I27 J28 G gp bn k1 k2 k3 k4 k5 => ?_) bgf 0 (Nat.zero_le _) (by unfold bgf; omega) _ J (h1.keep (Ag.of s26 (by decide)) (fun _ _ _ => rfl)) (h2.keep (Ag.of s26 (by decide)) (fun _ _ _ => rfl)) ⟨by rw [s26 _ _ rfl]; exact h3.1, fun k hk => by rw [s26 _ _ rfl]; exact h3.2 k hk⟩ ⟨by rw [s26 _ _ rfl]; exact h4.1, fun t ht => by rw [s26 _ _ rfl, s26 _ _ rfl]; exact h4.2 t ht⟩ ⟨0, fun _ => 0, fun _ _ => 0, by rw [ui_r]; rfl, Nat.le_refl _, fun i h => absurd h (Nat.not_lt_zero _), fun g t h => absurd h (Nat.not_lt_zero _), ⟨fun i h => absurd h (Nat.not_lt_zero _), fun g h => absurd h (Nat.not_lt_zero _)⟩, fun g g' h => absurd h (Nat.not_lt_zero _), rfl⟩
  have hGl : G ≤ 116 := by have := k5.2.1; omega
  have hG0 : 0 < G := by have := k5.2.2.2.2.1.1 0 hC0; omega
  have hg := k5.1
  have hs := k5.2.2.2.1
  have hdst := k5.2.2.2.2.2.1
  refine Ok.bxe (a := 0) (by omega) (by omega) (Ok.lbv ?_)
  have ldr0 : ∀ g, ldr T bn 0 g = 0 := fun g => ldr_e (fun t _ h => by rw [Nat.zero_testBit] at h; cases h) (fun k h => absurd h (Nat.not_lt_zero _))
  have fin : ∀ I', Sm [(p_cells, none), (x_plan_parts, none), (x_plan_sizes, none), (x_plan_worst, none), (p_depths, none)] I27 I' → clQ T G bn (2 ^ T) I' → dpQ T G bn 0 I' → (CFlow I' J28 ∧ agX C I' ∧ tsX T th tl I' ∧ ∃ G gp bn, plQ T C.length (anS B C th tl) G gp bn I' J28) := by
    intro I' s1 s2 s3
    exact ⟨k2.keep (Ag.of s1 (by decide)) (fun _ _ _ => rfl), ⟨by rw [s1 _ _ rfl]; exact k3.1, fun k hk => by rw [s1 _ _ rfl]; exact k3.2 k hk⟩, ⟨by rw [s1 _ _ rfl]; exact k4.1, fun t ht => by rw [s1 _ _ rfl, s1 _ _ rfl]; exact k4.2 t ht⟩, G, gp, bn, k5.keep (Ag.of s1 (by decide)) (fun _ _ _ => rfl), s2, s3⟩
  have l135 : ∀ K u, u < K → u ≤ 2 ^ T → ∀ I', Sm [(p_cells, none), (x_plan_parts, none), (x_plan_sizes, none), (x_plan_worst, none), (p_depths, none)] I27 I' → clQ T G bn (2 ^ T) I' → dpQ T G bn u I' → Ok (F_X5_grow_L135 K (nI u + (-1)) I' J28) (fun q => CFlow q.2.1 q.2.2 ∧ agX C q.2.1 ∧ tsX T th tl q.2.1 ∧ ∃ G gp bn, plQ T C.length (anS B C th tl) G gp bn q.2.1 q.2.2) := by
    refine dw ?_ ?_
    · intro K _ I' s1 s2 s3
      rw [F_X5_grow_L135]
      exact Ok.t (by decide) (Ok.mk (fin I' s1 s2 s3))
    · intro K u ih hu I' s1 s2 s3
      rw [F_X5_grow_L135, show nI (u + 1) + (-1) = nI u from n_m1 u]
      refine Ok.f (n_nn (by omega)) ?_
      refine Ok.call (X5_reckon hT hGl hdst (show u < 2 ^ T by omega) I' J28 (by rw [s1 _ _ rfl]; exact hg) (by rw [s1 _ _ rfl]; exact k4.1) s2 s3) (fun r I24 J25 _ hP => ?_)
      obtain ⟨p1, p2, p3⟩ := hP
      simp only at p1 p2 p3
      subst p1
      exact ih (by omega) I24 (Sm.tr (by decide) s1 p2) (fun u' hu' => ⟨fun g' hg' => by rw [p2 _ _ rfl]; exact (s2 u' hu').1 g' hg', by rw [p2 _ _ rfl]; exact (s2 u' hu').2⟩) p3
  have l105 : ∀ K u, u ≤ 2 ^ T → 2 ^ T - u < K → 0 < u → ∀ I', Sm [(p_cells, none), (x_plan_parts, none)] I27 I' → clQ T G bn u I' → Ok (F_X5_grow_L105 (fun (I31 : HI) (J32 : HJ) => lb (((oshl (1 : Int32) (I31 x_plan f_Plan_tests)) - (1 : Int32))) fun x33 => F_X5_grow_L135 bgf x33 I31 J32) K (nI u) I' J28) (fun q => CFlow q.2.1 q.2.2 ∧ agX C q.2.1 ∧ tsX T th tl q.2.1 ∧ ∃ G gp bn, plQ T C.length (anS B C th tl) G gp bn q.2.1 q.2.2) := by
    refine up ?_ ?_
    · intro K _ I' s1 s2
      rw [F_X5_grow_L105]
      have e : oshl (1 : Int32) (I' x_plan f_Plan_tests) = nI (2 ^ T) := by rw [s1 _ _ rfl, k4.1]; exact shl_m (by omega)
      refine Ok.t (by rw [e, n_le] <;> omega) (Ok.lbv ?_)
      rw [e, show nI (2 ^ T) - (1 : Int32) = nI (2 ^ T) + (-1) from Int32.sub_eq_add_neg ..]
      exact l135 bgf (2 ^ T) (by unfold bgf; omega) (Nat.le_refl _) I' (Sm.tr (by decide) Sm.rf s1) s2 (fun u' a b => by omega)
    · intro K u hu ih h0 I' s1 s2
      rw [F_X5_grow_L105]
      have e : oshl (1 : Int32) (I' x_plan f_Plan_tests) = nI (2 ^ T) := by rw [s1 _ _ rfl, k4.1]; exact shl_m (by omega)
      refine Ok.f (by rw [e, n_le] <;> omega) ?_
      refine Ok.call (X5_partCells hT hGl h0 hu I' J28 (by rw [s1 _ _ rfl]; exact hg) hs s2) (fun r I19 J20 _ hP => ?_)
      obtain ⟨p1, p2, p3⟩ := hP
      simp only at p1 p2 p3
      subst p1
      rw [nI_1]
      exact ih (by omega) I19 (Sm.tr (by decide) s1 p2) p3
  have l78 : ∀ K g, g ≤ G → G - g < K → ∀ I', Sm [(p_cells, none), (x_plan_parts, none)] I27 I' → I' x_plan_parts 0 = nI 1 → (∀ g', g' < g → I' p_cells g' = nI 0) → Ok (F_X5_grow_L78 J28 (fun (I30 : HI) => F_X5_grow_L105 (fun (I31 : HI) (J32 : HJ) => lb (((oshl (1 : Int32) (I31 x_plan f_Plan_tests)) - (1 : Int32))) fun x33 => F_X5_grow_L135 bgf x33 I31 J32) bgf (1 : Int32) I30 J28) K (nI g) I') (fun q => CFlow q.2.1 q.2.2 ∧ agX C q.2.1 ∧ tsX T th tl q.2.1 ∧ ∃ G gp bn, plQ T C.length (anS B C th tl) G gp bn q.2.1 q.2.2) := by
    refine up ?_ ?_
    · intro K I' s1 s2 s3
      rw [F_X5_grow_L78]
      refine Ok.t (by rw [s1 _ _ rfl, hg, n_le] <;> omega) (l105 bgf 1 (by omega) (by unfold bgf; omega) (by omega) I' s1 (fun u' hu' => ⟨fun g' hg' => ?_, ?_⟩))
      · rw [show u' = 0 by omega, ldr0, Nat.mul_zero, Nat.zero_add]; exact s3 g' hg'
      · rw [show u' = 0 by omega, s2]
        congr 1
        have : pcP G (fun g => decide (ldr T bn 0 g = g)) = 1 := by
          have e : (fun g => decide (ldr T bn 0 g = g)) = (fun g => decide (g = 0)) := by
            funext g; rw [ldr0]
            by_cases d : g = 0
            · subst d; rfl
            · rw [decide_eq_false (fun h => d h.symm), decide_eq_false d]
          rw [e]
          have hd := pcP_del (n := G) (k := 0) (p := fun g => decide (g = 0)) hG0 (by simp)
          rw [pcP_0 (fun k _ => by simp)] at hd
          omega
        exact this.symm
    · intro K g hgg ih I' s1 s2 s3
      rw [F_X5_grow_L78]
      refine Ok.f (by rw [s1 _ _ rfl, hg, n_le] <;> omega) ?_
      unfold F_X5_place
      refine Ok.cpe rfl ?_
      rw [show (0 : Int32) * (116 : Int32) + nI g = nI (0 * 116 + g) from by rw [show (0 : Int32) = nI 0 from rfl, show (116 : Int32) = nI 116 from rfl, n_mul, nI_add], Nat.zero_mul, Nat.zero_add]
      refine Ok.bxe (by omega) (by omega) (Ok.lbv ?_)
      rw [n_cl (by omega), nI_1]
      refine ih _ (Sm.mi rfl s1) (by rw [ui_c (by decide)]; exact s2) (fun g' hg' => ?_)
      rw [ui_s]
      by_cases e : g' = g
      · rw [if_pos e]; rfl
      · rw [if_neg e]; exact s3 g' (by omega)
  exact l78 bgf 0 (Nat.zero_le _) (by unfold bgf; omega) _ (Sm.mi rfl Sm.rf) (by rw [show (0 : Int32).toNatClampNeg = 0 from rfl, ui_r]; rfl) (fun g' h => absurd h (Nat.not_lt_zero _))

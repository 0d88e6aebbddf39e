/-! LAYER 2: tree: the depths -/
def dpQ (T G : Nat) (bn : Nat → Nat → Int64) (U : Nat) (I : HI) : Prop := ∀ u, U ≤ u → u < 2 ^ T → ∀ g, g < G → ldr T bn u g = g → ∃ v, I p_depths (116 * u + g) = nI v ∧ ldD T G bn u g v
theorem X5_depthAt {T G : Nat} (hT : T ≤ 8) (hG : G ≤ 116) {bn : Nat → Nat → Int64} {U u g : Nat} (hU : U ≤ u) (hu : u < 2 ^ T) (hg : g < G) {I : HI} {J : HJ} (hc : clQ T G bn (2 ^ T) I) (hd : dpQ T G bn U I) : ∃ v, F_X5_depthAt (nI u) (nI g) I J = some (nI v) ∧ ldD T G bn u g v := by
  have h1 : (2 : Nat) ^ T ≤ 2 ^ 8 := Nat.pow_le_pow_right (by omega) hT
  obtain ⟨l1, l2, _⟩ := ldr_p T bn u g
  obtain ⟨v, v1, v2⟩ := hd u hU hu (ldr T bn u g) (by omega) ldr_s
  refine ⟨v, ?_, ldD_al (by omega) hg l2 v2⟩
  unfold F_X5_depthAt F_X5_place
  simp only [cp, Option.bind_some]
  rw [show (116 : Int32) = nI 116 from rfl, n_mul, nI_add, n_bx (by omega) (by omega), n_cl (by omega), Nat.mul_comm u, (hc u hu).1 g hg, nI_add, n_bx (by omega) (by omega), n_cl (by omega), v1]
def szP (T G : Nat) (bn : Nat → Nat → Int64) (u c : Nat) : Nat := pcP G (fun g => decide (ldr T bn u g = c))
theorem sz_one {T G : Nat} {bn : Nat → Nat → Int64} {u g j : Nat} (hg : g < G) (hj : j < G) (hl : ldr T bn u g = g) (h : szP T G bn u g ≤ 1) (ha : alD T bn u g j) : j = g := by
  by_cases c : j = g
  · exact c
  · have : 2 ≤ szP T G bn u g := pcP_two.mpr ⟨g, j, fun e => c e.symm, hg, hj, decide_eq_true hl, decide_eq_true ((ldr_al.mpr ha).symm.trans hl)⟩
    omega
theorem sz_two {T G : Nat} {bn : Nat → Nat → Int64} {u g : Nat} (h : ¬ szP T G bn u g ≤ 1) : ldr T bn u g = g ∧ ∃ j, j < G ∧ j ≠ g ∧ alD T bn u g j := by
  obtain ⟨i, j, hij, hi, hj, e1, e2⟩ := pcP_two.mp (show 2 ≤ pcP G (fun g' => decide (ldr T bn u g' = g)) from by unfold szP at h; omega)
  have e1 := of_decide_eq_true e1
  have e2 := of_decide_eq_true e2
  have hl : ldr T bn u g = g := by rw [← e1]; exact ldr_s
  have a1 : alD T bn u g i := ldr_al.mp (hl.trans e1.symm)
  have a2 : alD T bn u g j := ldr_al.mp (hl.trans e2.symm)
  by_cases c : i = g
  · exact ⟨hl, j, hj, fun e => hij (c.trans e.symm), a2⟩
  · exact ⟨hl, i, hi, c, a1⟩
def stD (T G : Nat) (bn : Nat → Nat → Int64) (u t : Nat) (I : HI) : Prop := ∀ g, g < G → (szP T G bn u g ≤ 1 → I p_depths (116 * u + g) = nI 0) ∧ (¬ szP T G bn u g ≤ 1 → ∃ v, v ≤ 8 ∧ I p_depths (116 * u + g) = nI v ∧ (v < 8 → canD T G bn v u g) ∧ ∀ s, s < t → u.testBit s = false → ∀ w, okT T G bn u g w s → v ≤ w + 1)
theorem X5_tryTest {T G : Nat} (hT : T ≤ 8) (hG : G ≤ 116) {bn : Nat → Nat → Int64} {u t : Nat} (hu : u < 2 ^ T) (ht : t < T) (htb : u.testBit t = false) (I : HI) (J : HJ) (hg : I x_plan f_Plan_groups = nI G) (hc : clQ T G bn (2 ^ T) I) (hd : dpQ T G bn (u + 1) I) (hsz : ∀ g, g < G → I x_plan_sizes g = nI (szP T G bn u g)) (hst : stD T G bn u t I) : Ok (F_X5_tryTest (nI (116 * u)) (nI (u ||| 2 ^ t)) I J) (fun q => q.2.2 = J ∧ Sm [(x_plan_worst, none), (p_depths, none)] I q.2.1 ∧ dpQ T G bn (u + 1) q.2.1 ∧ stD T G bn u (t + 1) q.2.1) := by
  have h1 : (2 : Nat) ^ T ≤ 2 ^ 8 := Nat.pow_le_pow_right (by omega) hT
  have hub : u ||| 2 ^ t < 2 ^ T := (bit_or hT hu ht).2
  have huu : u + 1 ≤ u ||| 2 ^ t := by
    have h2 : u ≤ u ||| 2 ^ t := Nat.left_le_or
    have h3 : u ≠ u ||| 2 ^ t := fun e => by
      have : (u ||| 2 ^ t).testBit t = true := by rw [tb_or]; simp
      rw [← e, htb] at this; cases this
    omega
  unfold F_X5_tryTest
  refine Ok.call (fl_x_plan_worst 0 I J) (fun r I4 J5 _ hP => ?_)
  obtain ⟨f1, f2, f3⟩ := hP
  simp only at f1 f2 f3
  subst f1
  have l59 : ∀ (M : Nat → Nat) (I9 : HI), Sm [(x_plan_worst, none)] I I9 → (∀ c, c < G → I9 x_plan_worst c = nI (M c) ∧ M c ≤ 8) → (∀ g, g < G → ¬ szP T G bn u g ≤ 1 → okT T G bn u g (M g) t ∧ ∀ w, okT T G bn u g w t → M g ≤ w) → ∀ K g, g ≤ G → G - g < K → ∀ I', Sm [(p_depths, none)] I9 I' → dpQ T G bn (u + 1) I' → (∀ g', g' < G → (szP T G bn u g' ≤ 1 → I' p_depths (116 * u + g') = nI 0) ∧ (¬ szP T G bn u g' ≤ 1 → ∃ v, v ≤ 8 ∧ I' p_depths (116 * u + g') = nI v ∧ (v < 8 → canD T G bn v u g') ∧ ∀ s, s < (if g' < g then t + 1 else t) → u.testBit s = false → ∀ w, okT T G bn u g' w s → v ≤ w + 1)) → Ok (F_X5_tryTest_L59 (nI (116 * u)) J5 K (nI g) I') (fun q => q.2.2 = J5 ∧ Sm [(x_plan_worst, none), (p_depths, none)] I q.2.1 ∧ dpQ T G bn (u + 1) q.2.1 ∧ stD T G bn u (t + 1) q.2.1) := by
    intro M I9 s9 hM hok
    refine up ?_ ?_
    · intro K I' s1 s2 s3
      rw [F_X5_tryTest_L59]
      refine Ok.t (by rw [s1 _ _ rfl, s9 _ _ rfl, hg, n_le] <;> omega) (Ok.mk ⟨rfl, Sm.tr (by decide) (Sm.tr (by decide) Sm.rf s9) s1, s2, fun g hgg => ⟨(s3 g hgg).1, fun h => ?_⟩⟩)
      obtain ⟨v, v1, v2, v3, v4⟩ := (s3 g hgg).2 h
      rw [if_pos hgg] at v4
      exact ⟨v, v1, v2, v3, v4⟩
    · intro K g hgg ih I' s1 s2 s3
      have hsl : szP T G bn u g ≤ G := pcP_le G _
      rw [F_X5_tryTest_L59]
      refine Ok.f (by rw [s1 _ _ rfl, s9 _ _ rfl, hg, n_le] <;> omega) (Ok.bxe (by omega) (by omega) (Ok.lbv ?_))
      rw [n_cl (by omega), s1 x_plan_sizes _ rfl, s9 x_plan_sizes _ rfl, hsz g hgg, nI_1]
      by_cases c : szP T G bn u g ≤ 1
      · refine Ok.t (show nI (szP T G bn u g) ≤ (1 : Int32) from (by rw [n_le (by omega) (by omega)]; exact c : nI (szP T G bn u g) ≤ nI 1)) (ih I' s1 s2 (fun g' hg' => ⟨(s3 g' hg').1, fun h => ?_⟩))
        have hne : g' ≠ g := fun e => h (by rw [e]; exact c)
        obtain ⟨v, v1, v2, v3, v4⟩ := (s3 g' hg').2 h
        refine ⟨v, v1, v2, v3, ?_⟩
        by_cases d : g' < g
        · rw [if_pos d] at v4; rw [if_pos (by omega)]; exact v4
        · rw [if_neg d] at v4; rw [if_neg (by omega)]; exact v4
      · refine Ok.f (show ¬ nI (szP T G bn u g) ≤ (1 : Int32) from (by rw [n_le (by omega) (by omega)]; exact c : ¬ nI (szP T G bn u g) ≤ nI 1)) ?_
        rw [nI_add]
        refine Ok.bxe (by omega) (by omega) (Ok.bxe (by omega) (by omega) (Ok.bxe (by omega) (by omega) (Ok.lbv ?_)))
        obtain ⟨v, v1, v2, v3, v4⟩ := (s3 g hgg).2 c
        rw [if_neg (Nat.lt_irrefl _)] at v4
        obtain ⟨m1, m2⟩ := hM g hgg
        obtain ⟨o1, o2⟩ := hok g hgg c
        rw [n_cl (by omega), v2, s1 x_plan_worst _ rfl, m1, show (1 : Int32) = nI 1 from rfl, nI_add, omin_n (by omega) (by omega)]
        refine ih _ (Sm.mi rfl s1) (fun u' a b g' hg' hl' => ?_) (fun g' hg' => ⟨fun h => ?_, fun h => ?_⟩)
        · rw [ui_j (by omega)]; exact s2 u' a b g' hg' hl'
        · have hne : g' ≠ g := fun e => c (by rw [← e]; exact h)
          rw [ui_j (by omega)]; exact (s3 g' hg').1 h
        · rw [ui_s]
          by_cases d : g' = g
          · subst d
            rw [if_pos rfl, if_pos (by omega)]
            refine ⟨min v (1 + M g'), by omega, rfl, fun hlt => ?_, fun s hs hsb w hw => ?_⟩
            · by_cases e : v ≤ 1 + M g'
              · rw [Nat.min_eq_left e] at hlt ⊢; exact v3 hlt
              · rw [Nat.min_eq_right (by omega)]
                rw [Nat.add_comm]
                exact Or.inr ⟨t, ht, htb, o1⟩
            · by_cases e : s = t
              · rw [e] at hw; have := o2 w hw; omega
              · have := v4 s (by omega) hsb w hw; omega
          · rw [if_neg (by omega)]
            obtain ⟨v', x1, x2, x3, x4⟩ := (s3 g' hg').2 h
            refine ⟨v', x1, x2, x3, ?_⟩
            by_cases f : g' < g
            · rw [if_pos f] at x4; rw [if_pos (by omega)]; exact x4
            · rw [if_neg f] at x4; rw [if_neg (by omega)]; exact x4
  have l10 : ∀ K g, g ≤ G → G - g < K → ∀ I', Sm [(x_plan_worst, none)] I I' → (∃ M : Nat → Nat, ∀ c, c < G → I' x_plan_worst c = nI (M c) ∧ M c ≤ 8 ∧ (∀ g', g' < g → ldr T bn u g' = c → canD T G bn (M c) (u ||| 2 ^ t) g') ∧ (M c ≠ 0 → ∃ g', g' < g ∧ ldr T bn u g' = c ∧ ldD T G bn (u ||| 2 ^ t) g' (M c))) → Ok (F_X5_tryTest_L10 (nI (116 * u)) (nI (u ||| 2 ^ t)) J5 (fun (I9 : HI) => F_X5_tryTest_L59 (nI (116 * u)) J5 bgf (0 : Int32) I9) K (nI g) I') (fun q => q.2.2 = J5 ∧ Sm [(x_plan_worst, none), (p_depths, none)] I q.2.1 ∧ dpQ T G bn (u + 1) q.2.1 ∧ stD T G bn u (t + 1) q.2.1) := by
    refine up ?_ ?_
    · intro K I' s1 ⟨M, hM⟩
      rw [F_X5_tryTest_L10]
      refine Ok.t (by rw [s1 _ _ rfl, hg, n_le] <;> omega) (l59 M I' s1 (fun c hc' => ⟨(hM c hc').1, (hM c hc').2.1⟩) (fun g hgg hs2 => ?_) bgf 0 (Nat.zero_le _) (by unfold bgf; omega) I' Sm.rf (fun u' a b g' hg' hl' => by rw [s1 _ _ rfl]; exact hd u' a b g' hg' hl') (fun g' hg' => ⟨fun h => by rw [s1 _ _ rfl]; exact (hst g' hg').1 h, fun h => by rw [s1 _ _ rfl, if_neg (Nat.not_lt_zero _)]; exact (hst g' hg').2 h⟩))
      obtain ⟨hl, _⟩ := sz_two hs2
      obtain ⟨_, _, m3, m4⟩ := hM g hgg
      refine ⟨fun j hj ha => m3 j hj ((ldr_al.mpr ha).symm.trans hl), fun w hw => ?_⟩
      by_cases e : M g = 0
      · omega
      · obtain ⟨g', x1, x2, x3⟩ := m4 e
        exact ldD_ge x3 (hw g' x1 (ldr_al.mp (hl.trans x2.symm)))
    · intro K g hgg ih I' s1 ⟨M, hM⟩
      obtain ⟨l1, _, _⟩ := ldr_p T bn u g
      have hcI : clQ T G bn (2 ^ T) I' := fun u' hu' => ⟨fun g' hg' => by rw [s1 _ _ rfl]; exact (hc u' hu').1 g' hg', by rw [s1 _ _ rfl]; exact (hc u' hu').2⟩
      rw [F_X5_tryTest_L10]
      refine Ok.f (by rw [s1 _ _ rfl, hg, n_le] <;> omega) ?_
      rw [nI_add]
      refine Ok.bxe (by omega) (by omega) (Ok.lbv ?_)
      rw [n_cl (a := 116 * u + g) (by omega), (hcI u hu).1 g hgg]
      refine Ok.bxe (by omega) (by omega) ?_
      obtain ⟨v, v1, v2⟩ := X5_depthAt (J := J5) hT hG (U := u + 1) huu hub hgg hcI (fun u' a b g' hg' hl' => by rw [s1 _ _ rfl]; exact hd u' a b g' hg' hl')
      have hv8 := ldD_le v2
      refine Ok.cpe v1 (Ok.bxe (by omega) (by omega) (Ok.lbv ?_))
      obtain ⟨m1, m2, m3, m4⟩ := hM (ldr T bn u g) (by omega)
      rw [n_cl (by omega), m1, omax_n (by omega) (by omega), nI_1]
      refine ih _ (Sm.mi rfl s1) ⟨fun c => if c = ldr T bn u g then max (M c) v else M c, fun c hc' => ?_⟩
      simp only
      rw [ui_s]
      by_cases e : c = ldr T bn u g
      · subst e
        rw [if_pos rfl, if_pos rfl]
        refine ⟨rfl, by omega, fun g' hg' hl' => ?_, fun hne => ?_⟩
        · by_cases f : g' = g
          · rw [f]; exact canD_mo v2.1 (by omega)
          · exact canD_mo (m3 g' (by omega) hl') (by omega)
        · by_cases f : M (ldr T bn u g) ≤ v
          · rw [Nat.max_eq_right f]; exact ⟨g, by omega, rfl, v2⟩
          · rw [Nat.max_eq_left (by omega)]
            obtain ⟨g', x1, x2, x3⟩ := m4 (by omega)
            exact ⟨g', by omega, x2, x3⟩
      · rw [if_neg e, if_neg e]
        obtain ⟨y1, y2, y3, y4⟩ := hM c hc'
        refine ⟨y1, y2, fun g' hg' hl' => ?_, fun hne => ?_⟩
        · by_cases f : g' = g
          · rw [f] at hl'; exact absurd hl'.symm e
          · exact y3 g' (by omega) hl'
        · obtain ⟨g', x1, x2, x3⟩ := y4 hne
          exact ⟨g', by omega, x2, x3⟩
  exact l10 bgf 0 (Nat.zero_le _) (by unfold bgf; omega) I4 f3 ⟨fun _ => 0, fun c hc' => ⟨f2 c (by omega), Nat.zero_le _, fun g' h => absurd h (Nat.not_lt_zero _), fun h => absurd rfl h⟩⟩

/-! LAYER 2: tree: the groups -/
def flM (T : Nat) : Nat := 2 ^ T - 1
theorem flM_b {T t : Nat} (h : t < T) : (flM T).testBit t = true := by unfold flM; rw [Nat.testBit_two_pow_sub_one]; simp [h]
theorem al_fl {T : Nat} {an : Nat → Nat → Int64} {i j : Nat} : alD T an (flM T) i j ↔ ∀ t, t < T → an t i = an t j := ⟨fun h t ht => h t ht (flM_b ht), fun h t ht _ => h t ht⟩
/-- what the tests of the plan are -/
def tsX (T : Nat) (th tl : Nat → Int32) (I : HI) : Prop := I x_plan f_Plan_tests = nI T ∧ ∀ t, t < T → I x_plan_testHigh t = th t ∧ I x_plan_testLow t = tl t
def anS (B : Bd) (C : List Nat) (th tl : Nat → Int32) (t i : Nat) : Int64 := gwF B (C.getD i 0) (bi (th t)) (bi (tl t))
/-- groups found among the first l -/
def gsX (T l : Nat) (an : Nat → Nat → Int64) (G : Nat) (gp : Nat → Nat) (bn : Nat → Nat → Int64) (I : HI) (J : HJ) : Prop := I x_plan f_Plan_groups = nI G ∧ G ≤ l ∧ (∀ i, i < l → I x_plan_groupOf i = nI (gp i)) ∧ (∀ g t, g < G → t < T → J x_plan_shown (8 * g + t) = bn t g) ∧ bsD T l G an bn gp ∧ (∀ g g', g < G → g' < G → (∀ t, t < T → bn t g = bn t g') → g = g') ∧ G = pcP l (fun i => decide (ldr T an (flM T) i = i))
theorem X5_same {T a b : Nat} (hT : T ≤ 8) (ha : a + 8 ≤ 928) (hb : b + 8 ≤ 928) {I : HI} {J : HJ} (h : I x_plan f_Plan_tests = nI T) : Ok (F_X5_isSameRow (nI a) (nI b) I J) (fun r => ∃ p : Bool, r = b1 p ∧ (p = true ↔ ∀ t, t < T → J x_plan_shown (a + t) = J x_plan_shown (b + t))) := by
  unfold F_X5_isSameRow
  have lp : ∀ K t, t ≤ T → T - t < K → (∀ s, s < t → J x_plan_shown (a + s) = J x_plan_shown (b + s)) → Ok (F_X5_isSameRow_L2 (nI a) (nI b) I J K (nI t)) (fun r => ∃ p : Bool, r = b1 p ∧ (p = true ↔ ∀ t, t < T → J x_plan_shown (a + t) = J x_plan_shown (b + t))) := by
    refine up ?_ ?_
    · intro K hs
      rw [F_X5_isSameRow_L2]
      exact Ok.t (by rw [h, n_le] <;> omega) (Ok.mk ⟨true, rfl, fun _ => hs, fun _ => rfl⟩)
    · intro K t ht ih hs
      rw [F_X5_isSameRow_L2]
      refine Ok.f (by rw [h, n_le] <;> omega) ?_
      rw [nI_add, nI_add, nI_1]
      refine Ok.bxe (by omega) (by omega) (Ok.bxe (by omega) (by omega) ?_)
      rw [n_cl (by omega), n_cl (by omega)]
      refine Ok.ite (fun c => ?_) (fun c => ?_)
      · have e := cm0.mp c
        refine ih (fun s hs' => ?_)
        by_cases d : s = t
        · rw [d]; exact e
        · exact hs s (by omega)
      · exact Ok.mk ⟨false, rfl, (fun h => by cases h), fun hh => absurd (cm0.mpr (hh t ht)) c⟩
  exact lp bgf 0 (Nat.zero_le _) (by unfold bgf; omega) (fun s h => absurd h (Nat.not_lt_zero _))
def gpU (gp : Nat → Nat) (l g i : Nat) : Nat := if i = l then g else gp i
theorem gpU_r {gp : Nat → Nat} {l g : Nat} : gpU gp l g l = g := if_pos rfl
theorem gpU_n {gp : Nat → Nat} {l g i : Nat} (h : ¬ i = l) : gpU gp l g i = gp i := if_neg h
def bnU (bn : Nat → Nat → Int64) (G : Nat) (f : Nat → Int64) (t g : Nat) : Int64 := if g = G then f t else bn t g
theorem bnU_r {bn : Nat → Nat → Int64} {G : Nat} {f : Nat → Int64} {t : Nat} : bnU bn G f t G = f t := if_pos rfl
theorem bnU_n {bn : Nat → Nat → Int64} {G : Nat} {f : Nat → Int64} {t g : Nat} (h : ¬ g = G) : bnU bn G f t g = bn t g := if_neg h
theorem X5_grow_33 {B : Bd} (hB : OkB B) {C : List Nat} (hC : C.length ≤ 116) (hCl : ∀ k, k < C.length → C.getD k 0 < nF B) {T : Nat} (hT : T ≤ 8) {th tl : Nat → Int32} (hok : ∀ t, t < T → okS (bi (th t)) (bi (tl t))) {kx : HI → HJ → Option (Unit × HI × HJ)} {Q : Unit × HI × HJ → Prop} (hx : ∀ I J G gp bn, XB B I J → CFlow I J → agX C I → tsX T th tl I → gsX T C.length (anS B C th tl) G gp bn I J → Ok (kx I J) Q) : ∀ K l, l ≤ C.length → C.length - l < K → ∀ I J, XB B I J → CFlow I J → agX C I → tsX T th tl I → (∃ G gp bn, gsX T l (anS B C th tl) G gp bn I J) → Ok (F_X5_grow_L33 kx K (nI l) I J) Q := by
  refine up ?_ ?_
  · intro K I J h1 h2 h3 h4 ⟨G, gp, bn, h5⟩
    rw [F_X5_grow_L33]
    exact Ok.t (by rw [h3.1, n_le] <;> omega) (hx I J G gp bn h1 h2 h3 h4 h5)
  · intro K l hl ih I J h1 h2 h3 h4 ⟨G, gp, bn, g1, g2, g3, g4, g5, g6, g7⟩
    rw [F_X5_grow_L33]
    refine Ok.f (by rw [h3.1, n_le] <;> omega) (Ok.bxe (by omega) (by omega) ?_)
    rw [n_cl (by omega), h3.2 l hl, nI_1]
    have hfl := hCl l hl
    have main : Ok (F_X5_findGroup (nI (C.getD l 0)) I J) (fun q => XB B q.2.1 q.2.2 ∧ CFlow q.2.1 q.2.2 ∧ agX C q.2.1 ∧ tsX T th tl q.2.1 ∧ q.2.1 x_plan_groupOf = I x_plan_groupOf ∧ ((∃ g, g < G ∧ q.1 = nI g ∧ q.2.1 x_plan f_Plan_groups = nI G ∧ (∀ g' t, g' < G → t < T → q.2.2 x_plan_shown (8 * g' + t) = bn t g') ∧ ∀ t, t < T → bn t g = anS B C th tl t l) ∨ (q.1 = nI G ∧ q.2.1 x_plan f_Plan_groups = nI (G + 1) ∧ (∀ g' t, g' < G → t < T → q.2.2 x_plan_shown (8 * g' + t) = bn t g') ∧ (∀ t, t < T → q.2.2 x_plan_shown (8 * G + t) = anS B C th tl t l) ∧ ∀ g', g' < G → ¬ ∀ t, t < T → bn t g' = anS B C th tl t l))) := by
      unfold F_X5_findGroup
      refine Ok.lbv ?_
      rw [g1, show (8 : Int32) = nI 8 from rfl, n_mul]
      have lp : ∀ (kx2 : HI → HJ → Option (Int32 × HI × HJ)) (Q2 : Int32 × HI × HJ → Prop), (∀ I2 J2, XB B I2 J2 → CFlow I2 J2 → Sm wi_X7_glowWith I I2 → (∀ g' t, g' < G → t < T → J2 x_plan_shown (8 * g' + t) = bn t g') → (∀ t, t < T → J2 x_plan_shown (G * 8 + t) = anS B C th tl t l) → Ok (kx2 I2 J2) Q2) → ∀ K t, t ≤ T → T - t < K → ∀ I2 J2, XB B I2 J2 → CFlow I2 J2 → Sm wi_X7_glowWith I I2 → (∀ g' t, g' < G → t < T → J2 x_plan_shown (8 * g' + t) = bn t g') → (∀ s, s < t → J2 x_plan_shown (G * 8 + s) = anS B C th tl s l) → Ok (F_X5_findGroup_L10 (nI (C.getD l 0)) (nI (G * 8)) kx2 K (nI t) I2 J2) Q2 := by
        intro kx2 Q2 hx2
        refine up ?_ ?_
        · intro K I2 J2 a1 a2 a3 a4 a5
          rw [F_X5_findGroup_L10]
          exact Ok.t (by rw [a3 _ _ rfl, h4.1, n_le] <;> omega) (hx2 I2 J2 a1 a2 a3 a4 a5)
        · intro K t ht ih2 I2 J2 a1 a2 a3 a4 a5
          rw [F_X5_findGroup_L10]
          refine Ok.f (by rw [a3 _ _ rfl, h4.1, n_le] <;> omega) (Ok.bxe (by omega) (by omega) (Ok.bxe (by omega) (by omega) ?_))
          rw [n_cl (by omega), a3 x_plan_testHigh _ rfl, a3 x_plan_testLow _ rfl, (h4.2 t ht).1, (h4.2 t ht).2]
          refine Ok.call ((X7_glowWithF hB (C.getD l 0) hfl (th t) (tl t) (hok t ht) I2 J2 a1 a2).fo (fr_X7_glowWith _ _ _ I2 J2)) (fun r I6 J7 _ hP => ?_)
          obtain ⟨⟨q1, q2⟩, s1, s2⟩ := hP
          simp only at q1 q2 s1 s2
          rw [nI_add, nI_1]
          refine Ok.bxe (by omega) (by omega) (Ok.lbv ?_)
          rw [n_cl (by omega)]
          have sJ : Sm [(x_plan_shown, none)] J7 (uj J7 x_plan_shown (G * 8 + t) r) := Sm.mj rfl Sm.rf
          refine ih2 I6 _ (a1.keep (Ag.of s1 (by decide)) (Ag.two s2 sJ (by decide) (by decide))) (q2.keep (fun _ _ _ => rfl) (Ag.of sJ (by decide))) (Sm.tr (by decide) a3 s1) (fun g' s hg hs => ?_) (fun s hs => ?_)
          · rw [uj_j (by omega), s2 _ _ rfl]; exact a4 g' s hg hs
          · rw [uj_s]
            by_cases d : s = t
            · rw [d, if_pos rfl]; exact q1
            · rw [if_neg (by omega), s2 _ _ rfl]; exact a5 s (by omega)
      refine lp _ _ (fun I2 J2 a1 a2 a3 a4 a5 => ?_) bgf 0 (Nat.zero_le _) (by unfold bgf; omega) I J h1 h2 Sm.rf g4 (fun s h => absurd h (Nat.not_lt_zero _))
      have k3 : agX C I2 := ⟨by rw [a3 _ _ rfl]; exact h3.1, fun k hk => by rw [a3 _ _ rfl]; exact h3.2 k hk⟩
      have k4 : tsX T th tl I2 := ⟨by rw [a3 _ _ rfl]; exact h4.1, fun t ht => by rw [a3 _ _ rfl, a3 _ _ rfl]; exact h4.2 t ht⟩
      have kg : I2 x_plan_groupOf = I x_plan_groupOf := (Ag.of a3 (rd := [(x_plan_groupOf, none)]) (by decide)).c (fun _ => rfl)
      have kG : I2 x_plan f_Plan_groups = nI G := by rw [a3 _ _ rfl]; exact g1
      have lp2 : ∀ K g, g ≤ G → G - g < K → (∀ g', g' < g → ¬ ∀ t, t < T → bn t g' = anS B C th tl t l) → Ok (F_X5_findGroup_L54 (nI (G * 8)) I2 J2 (lb (ui I2 x_plan f_Plan_groups ((I2 x_plan f_Plan_groups) + (1 : Int32))) fun I12 => some (((I12 x_plan f_Plan_groups) - (1 : Int32)), I12, J2)) K (nI g)) (fun q => XB B q.2.1 q.2.2 ∧ CFlow q.2.1 q.2.2 ∧ agX C q.2.1 ∧ tsX T th tl q.2.1 ∧ q.2.1 x_plan_groupOf = I x_plan_groupOf ∧ ((∃ g, g < G ∧ q.1 = nI g ∧ q.2.1 x_plan f_Plan_groups = nI G ∧ (∀ g' t, g' < G → t < T → q.2.2 x_plan_shown (8 * g' + t) = bn t g') ∧ ∀ t, t < T → bn t g = anS B C th tl t l) ∨ (q.1 = nI G ∧ q.2.1 x_plan f_Plan_groups = nI (G + 1) ∧ (∀ g' t, g' < G → t < T → q.2.2 x_plan_shown (8 * g' + t) = bn t g') ∧ (∀ t, t < T → q.2.2 x_plan_shown (8 * G + t) = anS B C th tl t l) ∧ ∀ g', g' < G → ¬ ∀ t, t < T → bn t g' = anS B C th tl t l))) := by
        refine up ?_ ?_
        · intro K hno
          rw [F_X5_findGroup_L54]
          refine Ok.t (by rw [kG, n_le] <;> omega) (Ok.lbv ?_)
          rw [kG, nI_1, ui_r, show (1 : Int32) = nI 1 from rfl, n_sub (by omega), Nat.add_sub_cancel]
          have sP : Sm [(x_plan, some f_Plan_groups)] I2 (ui I2 x_plan f_Plan_groups (nI (G + 1))) := Sm.mi rfl Sm.rf
          refine Ok.mk ⟨a1.keep (Ag.of sP (by decide)) (fun _ _ _ => rfl), a2.keep (Ag.of sP (by decide)) (fun _ _ _ => rfl), ⟨by dsimp only; rw [sP _ _ rfl]; exact k3.1, fun k hk => by dsimp only; rw [sP _ _ rfl]; exact k3.2 k hk⟩, ⟨by dsimp only; rw [sP _ _ rfl]; exact k4.1, fun t ht => by dsimp only; rw [sP _ _ rfl, sP _ _ rfl]; exact k4.2 t ht⟩, by dsimp only; rw [(Ag.of sP (rd := [(x_plan_groupOf, none)]) (by decide)).c (fun _ => rfl), kg], Or.inr ⟨rfl, by dsimp only; rw [ui_r], a4, fun t ht => by dsimp only; rw [Nat.mul_comm]; exact a5 t ht, hno⟩⟩
        · intro K g hg ih2 hno
          rw [F_X5_findGroup_L54]
          refine Ok.f (by rw [kG, n_le] <;> omega) ?_
          rw [show (8 : Int32) = nI 8 from rfl, n_mul, nI_1]
          obtain ⟨r, hr, p, hp1, hp2⟩ := X5_same (J := J2) (a := g * 8) (b := G * 8) hT (by omega) (by omega) k4.1
          refine Ok.cpe hr ?_
          rw [hp1]
          have hiff : p = true ↔ ∀ t, t < T → bn t g = anS B C th tl t l := by
            rw [hp2]
            constructor
            · intro hh t ht
              have := hh t ht
              rw [Nat.mul_comm, a4 g t hg ht, a5 t ht] at this; exact this
            · intro hh t ht
              rw [Nat.mul_comm g, a4 g t hg ht, a5 t ht]; exact hh t ht
          cases p with
          | true => exact Ok.f (by decide) (Ok.mk ⟨a1, a2, k3, k4, kg, Or.inl ⟨g, hg, rfl, kG, a4, hiff.mp rfl⟩⟩)
          | false =>
            refine Ok.t rfl (ih2 (fun g' hg' => ?_))
            by_cases d : g' = g
            · rw [d]; intro hh; have := hiff.mpr hh; cases this
            · exact hno g' (by omega)
      exact lp2 bgf 0 (Nat.zero_le _) (by unfold bgf; omega) (fun g' h => absurd h (Nat.not_lt_zero _))
    refine Ok.call main (fun r I10 J11 _ hP => ?_)
    obtain ⟨q1, q2, q3, q4, q5, q6⟩ := hP
    simp only at q1 q2 q3 q4 q5 q6
    refine Ok.bxe (by omega) (by omega) (Ok.lbv ?_)
    have sP : Sm [(x_plan_groupOf, none)] I10 (ui I10 x_plan_groupOf l r) := Sm.mi rfl Sm.rf
    refine ih _ J11 (q1.keep (Ag.of sP (by decide)) (fun _ _ _ => rfl)) (q2.keep (Ag.of sP (by decide)) (fun _ _ _ => rfl)) ⟨by rw [sP _ _ rfl]; exact q3.1, fun k hk => by rw [sP _ _ rfl]; exact q3.2 k hk⟩ ⟨by rw [sP _ _ rfl]; exact q4.1, fun t ht => by rw [sP _ _ rfl, sP _ _ rfl]; exact q4.2 t ht⟩ ?_
    rcases q6 with ⟨g, p1, p2, p3, p4, p5⟩ | ⟨p2, p3, p4, p5, p6⟩
    · refine ⟨G, gpU gp l g, bn, by rw [sP _ _ rfl]; exact p3, by omega, fun i hi => ?_, p4, ⟨fun i hi => ?_, fun g' hg' => ?_⟩, g6, ?_⟩
      · rw [ui_s]
        by_cases d : i = l
        · rw [if_pos d, d, gpU_r, p2]
        · rw [if_neg d, gpU_n d, q5]; exact g3 i (by omega)
      · by_cases d : i = l
        · rw [d, gpU_r]; exact ⟨p1, fun t ht => (p5 t ht).symm⟩
        · rw [gpU_n d]; exact g5.1 i (by omega)
      · obtain ⟨i, i1, i2⟩ := g5.2 g' hg'
        exact ⟨i, by omega, by rw [gpU_n (by omega)]; exact i2⟩
      · rw [pcP_s, ← g7]
        have : ¬ ldr T (anS B C th tl) (flM T) l = l := by
          intro e
          obtain ⟨i, i1, i2⟩ := g5.2 g p1
          have hal : alD T (anS B C th tl) (flM T) i l := al_fl.mpr (fun t ht => by rw [(g5.1 i i1).2 t ht, i2]; exact p5 t ht)
          have h3 := (ldr_p T (anS B C th tl) (flM T) l).2.2
          rw [e] at h3
          exact h3 i i1 hal
        rw [decide_eq_false this]; simp
    · refine ⟨G + 1, gpU gp l G, bnU bn G (fun t => anS B C th tl t l), by rw [sP _ _ rfl]; exact p3, by omega, fun i hi => ?_, fun g' t hg' ht => ?_, ⟨fun i hi => ?_, fun g' hg' => ?_⟩, fun g' g'' h' h'' hh => ?_, ?_⟩
      · rw [ui_s]
        by_cases d : i = l
        · rw [if_pos d, d, gpU_r, p2]
        · rw [if_neg d, gpU_n d, q5]; exact g3 i (by omega)
      · by_cases d : g' = G
        · rw [d, bnU_r]; exact p5 t ht
        · rw [bnU_n d]; exact p4 g' t (by omega) ht
      · by_cases d : i = l
        · rw [d, gpU_r]; exact ⟨by omega, fun t _ => by rw [bnU_r]⟩
        · rw [gpU_n d]
          have := g5.1 i (by omega)
          exact ⟨by omega, fun t ht => by rw [bnU_n (by omega)]; exact this.2 t ht⟩
      · by_cases d : g' = G
        · exact ⟨l, by omega, by rw [gpU_r]; exact d.symm⟩
        · obtain ⟨i, i1, i2⟩ := g5.2 g' (by omega)
          exact ⟨i, by omega, by rw [gpU_n (by omega)]; exact i2⟩
      · by_cases d : g' = G
        · by_cases d2 : g'' = G
          · omega
          · exfalso
            refine p6 g'' (by omega) (fun t ht => ?_)
            have := hh t ht
            rw [d, bnU_r, bnU_n d2] at this; exact this.symm
        · by_cases d2 : g'' = G
          · exfalso
            refine p6 g' (by omega) (fun t ht => ?_)
            have := hh t ht
            rw [d2, bnU_r, bnU_n d] at this; exact this
          · refine g6 g' g'' (by omega) (by omega) (fun t ht => ?_)
            have := hh t ht
            rw [bnU_n d, bnU_n d2] at this; exact this
      · rw [pcP_s, ← g7]
        have : ldr T (anS B C th tl) (flM T) l = l := ldr_e alD.rf (fun i hi hal => by
          refine p6 (gp i) (g5.1 i hi).1 (fun t ht => ?_)
          rw [← (g5.1 i hi).2 t ht]
          exact al_fl.mp hal t ht)
        rw [decide_eq_true this]; simp

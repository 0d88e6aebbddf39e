/-! LAYER 2: tree: the cells -/
def clQ (T G : Nat) (bn : Nat → Nat → Int64) (U : Nat) (I : HI) : Prop := ∀ u, u < U → (∀ g, g < G → I p_cells (116 * u + g) = nI (ldr T bn u g)) ∧ I x_plan_parts u = nI (pcP G (fun g => decide (ldr T bn u g = g)))
theorem rest_of {T u low : Nat} (hT : T ≤ 8) (hu : u < 2 ^ T) (hl : bi (nI u) low = true) : ∃ w, nI u &&& ((oshl (nI 1) (nI low)) ^^^ (-1 : Int32)) = nI w ∧ w < u ∧ w < 2 ^ T ∧ low < T ∧ u = w ||| 2 ^ low ∧ w.testBit low = false := by
  have h1 : (2 : Nat) ^ T ≤ 2 ^ 8 := Nat.pow_le_pow_right (by omega) hT
  have hlT : low < T := by
    by_cases c : low < T
    · exact c
    · rw [n_lowQ (by omega) hu low (by omega)] at hl; cases hl
  obtain ⟨w, w1, w2⟩ := n_andL (m := T) (by omega) hu ((oshl (nI 1) (nI low)) ^^^ (-1 : Int32))
  have hb : ∀ t, w.testBit t = (u.testBit t && !decide (t = low)) := by
    intro t
    by_cases ct : t < 32
    · rw [← bi_n (k := w) (by omega), ← w1, bi_and, bi_n (k := u) (by omega), bi_not ct, show bi (oshl (nI 1) (nI low)) t = decide (t = low) from bi_one (by omega)]
    · have e1 : w.testBit t = false := Nat.testBit_lt_two_pow (Nat.lt_of_lt_of_le w2 (Nat.pow_le_pow_right (by omega) (by omega)))
      have e2 : u.testBit t = false := Nat.testBit_lt_two_pow (Nat.lt_of_lt_of_le hu (Nat.pow_le_pow_right (by omega) (by omega)))
      rw [e1, e2]; rfl
  have hlow : w.testBit low = false := by rw [hb]; simp
  have hul : u.testBit low = true := by rw [← bi_n (by omega)]; exact hl
  have hor : u = w ||| 2 ^ low := by
    apply Nat.eq_of_testBit_eq
    intro t
    rw [tb_or, hb]
    by_cases c : t = low
    · subst c; rw [hul]; simp
    · have : ¬ low = t := fun e => c e.symm
      simp [c, this]
  refine ⟨w, w1, ?_, w2, hlT, hor, hlow⟩
  have h2 : w ≤ u := by rw [hor]; exact Nat.left_le_or
  have h3 : w ≠ u := fun e => by rw [e, hul] at hlow; cases hlow
  omega
theorem X5_partCells {T G : Nat} (hT : T ≤ 8) (hG : G ≤ 116) {bn : Nat → Nat → Int64} {u : Nat} (hu0 : 0 < u) (hu : u < 2 ^ T) (I : HI) (J : HJ) (hg : I x_plan f_Plan_groups = nI G) (hs : ∀ g t, g < G → t < T → J x_plan_shown (8 * g + t) = bn t g) (hc : clQ T G bn u I) : Ok (F_X5_partCells (nI u) I J) (fun q => q.2.2 = J ∧ Sm [(p_cells, none), (x_plan_parts, none)] I q.2.1 ∧ clQ T G bn (u + 1) q.2.1) := by
  have h1 : (2 : Nat) ^ T ≤ 2 ^ 8 := Nat.pow_le_pow_right (by omega) hT
  unfold F_X5_partCells
  obtain ⟨low, _, n2, n3, _⟩ := ntNi (x := nI u) (fun e => by rw [n_eq (by omega) (by omega)] at e; omega)
  refine Ok.cpe n2 ?_
  obtain ⟨w, w1, w2, w3, w4, w5, w6⟩ := rest_of hT hu n3
  have hal : ∀ i j, alD T bn u i j ↔ alD T bn w i j ∧ bn low i = bn low j := fun i j => by rw [w5]; exact alD_or w4
  rw [show nI u &&& ((oshl (1 : Int32) (nI low)) ^^^ (-1 : Int32)) = nI w from w1]
  unfold F_X5_place
  refine Ok.cpe rfl ?_
  rw [show (116 : Int32) = nI 116 from rfl, n_mul, show nI (w * 116) + (0 : Int32) = nI (w * 116 + 0) from nI_add _ _, Nat.add_zero]
  refine Ok.bxe (by omega) (by omega) (Ok.lbv ?_)
  rw [n_cl (by omega), (hc w w2).2, hg]
  have body : ∀ (l4 : Int32), (l4 = 0 ∨ (¬ l4 = 0 ∧ ∀ g, g < G → ldr T bn w g = g)) → Ok (bx (nI u) 256 <| lb (ui I x_plan_parts (Int32.toNatClampNeg (nI u)) (0 : Int32)) fun I8 => F_X5_partCells_L53 (nI u) (nI low) (nI (w * 116)) l4 J bgf (0 : Int32) I8) (fun q => q.2.2 = J ∧ Sm [(p_cells, none), (x_plan_parts, none)] I q.2.1 ∧ clQ T G bn (u + 1) q.2.1) := by
    intro l4 hl4
    refine Ok.bxe (by omega) (by omega) (Ok.lbv ?_)
    rw [n_cl (by omega)]
    have lp : ∀ K g, g ≤ G → G - g < K → ∀ I', Sm [(p_cells, none), (x_plan_parts, none)] I I' → clQ T G bn u I' → (∀ g', g' < g → I' p_cells (116 * u + g') = nI (ldr T bn u g')) → I' x_plan_parts u = nI (pcP g (fun g => decide (ldr T bn u g = g))) → Ok (F_X5_partCells_L53 (nI u) (nI low) (nI (w * 116)) l4 J K (nI g) I') (fun q => q.2.2 = J ∧ Sm [(p_cells, none), (x_plan_parts, none)] I q.2.1 ∧ clQ T G bn (u + 1) q.2.1) := by
      refine up ?_ ?_
      · intro K I' s1 s2 s3 s4
        rw [F_X5_partCells_L53]
        refine Ok.t (by rw [s1 _ _ rfl, hg, n_le] <;> omega) (Ok.mk ⟨rfl, s1, fun u' hu' => ?_⟩)
        by_cases c : u' = u
        · rw [c]; exact ⟨s3, s4⟩
        · exact s2 u' (by omega)
      · intro K g hgg ih I' s1 s2 s3 s4
        rw [F_X5_partCells_L53]
        refine Ok.f (by rw [s1 _ _ rfl, hg, n_le] <;> omega) (Ok.lbv ?_)
        obtain ⟨p1, p2, p3⟩ := ldr_p T bn u g
        have hw := s2 w w2
        have scan : ∀ y, y ≤ g → (∀ k, k < y → ¬ alD T bn u k g) → Ok (F_X5_partCells_L83 (nI u) (nI low) (nI (w * 116)) l4 (nI g) I' J (fun (y12 : Int32) => cp (F_X5_place (nI u) (nI g)) fun r13 => bx r13 29696 <| lb (ui I' p_cells (Int32.toNatClampNeg r13) y12) fun I14 => bx (nI u) 256 <| lb (fun (y15 : Int32) (y16 : Int32) (y17 : Int32) => bx y15 256 <| lb (ui I14 x_plan_parts (Int32.toNatClampNeg y15) (y16 + y17)) fun I19 => F_X5_partCells_L53 (nI u) (nI low) (nI (w * 116)) l4 J K (nI g + 1) I19) fun j18 => if y12 = nI g then j18 (nI u) (I14 x_plan_parts (Int32.toNatClampNeg (nI u))) (1 : Int32) else j18 (nI u) (I14 x_plan_parts (Int32.toNatClampNeg (nI u))) (0 : Int32)) bgf (nI y)) (fun q => q.2.2 = J ∧ Sm [(p_cells, none), (x_plan_parts, none)] I q.2.1 ∧ clQ T G bn (u + 1) q.2.1) := by
          intro y hy hno
          have fin : Ok (cp (F_X5_place (nI u) (nI g)) fun r13 => bx r13 29696 <| lb (ui I' p_cells (Int32.toNatClampNeg r13) (nI (ldr T bn u g))) fun I14 => bx (nI u) 256 <| lb (fun (y15 : Int32) (y16 : Int32) (y17 : Int32) => bx y15 256 <| lb (ui I14 x_plan_parts (Int32.toNatClampNeg y15) (y16 + y17)) fun I19 => F_X5_partCells_L53 (nI u) (nI low) (nI (w * 116)) l4 J K (nI g + 1) I19) fun j18 => if nI (ldr T bn u g) = nI g then j18 (nI u) (I14 x_plan_parts (Int32.toNatClampNeg (nI u))) (1 : Int32) else j18 (nI u) (I14 x_plan_parts (Int32.toNatClampNeg (nI u))) (0 : Int32)) (fun q => q.2.2 = J ∧ Sm [(p_cells, none), (x_plan_parts, none)] I q.2.1 ∧ clQ T G bn (u + 1) q.2.1) := by
            unfold F_X5_place
            refine Ok.cpe rfl ?_
            rw [show (116 : Int32) = nI 116 from rfl, n_mul, nI_add, nI_1]
            refine Ok.bxe (by omega) (by omega) (Ok.lbv (Ok.bxe (by omega) (by omega) (Ok.lbv ?_)))
            rw [n_cl (a := u * 116 + g) (by omega), ui_c (show x_plan_parts ≠ p_cells by decide), show I' x_plan_parts (Int32.toNatClampNeg (nI u)) = nI (pcP g (fun g => decide (ldr T bn u g = g))) from by rw [n_cl (by omega)]; exact s4]
            have go : ∀ (d : Nat), pcP (g + 1) (fun g => decide (ldr T bn u g = g)) = pcP g (fun g => decide (ldr T bn u g = g)) + d → Ok (bx (nI u) 256 <| lb (ui (ui I' p_cells (u * 116 + g) (nI (ldr T bn u g))) x_plan_parts (Int32.toNatClampNeg (nI u)) (nI (pcP g (fun g => decide (ldr T bn u g = g))) + nI d)) fun I19 => F_X5_partCells_L53 (nI u) (nI low) (nI (w * 116)) l4 J K (nI (g + 1)) I19) (fun q => q.2.2 = J ∧ Sm [(p_cells, none), (x_plan_parts, none)] I q.2.1 ∧ clQ T G bn (u + 1) q.2.1) := by
              intro d hd
              refine Ok.bxe (by omega) (by omega) (Ok.lbv ?_)
              rw [n_cl (by omega)]
              refine ih _ (Sm.mi rfl (Sm.mi rfl s1)) (fun u' hu' => ⟨fun g' hg' => ?_, ?_⟩) (fun g' hg' => ?_) ?_
              · rw [ui_c (by decide), ui_j (by omega)]; exact (s2 u' hu').1 g' hg'
              · rw [ui_j (by omega), ui_c (by decide)]; exact (s2 u' hu').2
              · rw [ui_c (by decide), ui_s]
                by_cases c : g' = g
                · rw [c, if_pos (by omega)]
                · rw [if_neg (by omega)]; exact s3 g' (by omega)
              · rw [ui_r, nI_add, hd]
            by_cases c : ldr T bn u g = g
            · refine Ok.t (by rw [c]) (go 1 ?_)
              rw [pcP_s, decide_eq_true c]; simp
            · refine Ok.f (by rw [n_eq] <;> omega) (go 0 ?_)
              rw [pcP_s, decide_eq_false c]; simp
          have lp2 : ∀ K2 y, y ≤ ldr T bn u g → ldr T bn u g - y < K2 → Ok (F_X5_partCells_L83 (nI u) (nI low) (nI (w * 116)) l4 (nI g) I' J (fun (y12 : Int32) => cp (F_X5_place (nI u) (nI g)) fun r13 => bx r13 29696 <| lb (ui I' p_cells (Int32.toNatClampNeg r13) y12) fun I14 => bx (nI u) 256 <| lb (fun (y15 : Int32) (y16 : Int32) (y17 : Int32) => bx y15 256 <| lb (ui I14 x_plan_parts (Int32.toNatClampNeg y15) (y16 + y17)) fun I19 => F_X5_partCells_L53 (nI u) (nI low) (nI (w * 116)) l4 J K (nI g + 1) I19) fun j18 => if y12 = nI g then j18 (nI u) (I14 x_plan_parts (Int32.toNatClampNeg (nI u))) (1 : Int32) else j18 (nI u) (I14 x_plan_parts (Int32.toNatClampNeg (nI u))) (0 : Int32)) K2 (nI y)) (fun q => q.2.2 = J ∧ Sm [(p_cells, none), (x_plan_parts, none)] I q.2.1 ∧ clQ T G bn (u + 1) q.2.1) := by
            have one : ∀ k, k < g → Ok (F_X5_isOneCell (nI k) (nI g) (nI (w * 116)) (nI low) I' J) (fun r => ∃ p : Bool, r = b1 p ∧ (p = true ↔ alD T bn u k g)) := by
              intro k hk
              unfold F_X5_isOneCell
              rw [nI_add, nI_add, show (8 : Int32) = nI 8 from rfl, n_mul, n_mul, nI_add, nI_add]
              refine Ok.bxe (by omega) (by omega) (Ok.bxe (by omega) (by omega) ?_)
              have lk := (ldr_p T bn w k).1
              have lg := (ldr_p T bn w g).1
              rw [n_cl (by omega), n_cl (by omega), n_cl (by omega), n_cl (by omega), Nat.mul_comm w, hw.1 k (by omega), hw.1 g hgg]
              by_cases c : ldr T bn w k = ldr T bn w g
              · refine Ok.t (by rw [c]) (Ok.bxe (by omega) (by omega) (Ok.bxe (by omega) (by omega) ?_))
                rw [Nat.mul_comm k, Nat.mul_comm g, hs k low (by omega) w4, hs g low hgg w4]
                refine Ok.ite (fun d => Ok.mk ⟨true, rfl, fun _ => (hal k g).mpr ⟨ldr_al.mp c, cm0.mp d⟩, fun _ => rfl⟩) (fun d => Ok.mk ⟨false, rfl, (fun h => by cases h), fun h => absurd (cm0.mpr ((hal k g).mp h).2) d⟩)
              · exact Ok.f (by rw [n_eq] <;> omega) (Ok.mk ⟨false, rfl, (fun h => by cases h), fun h => absurd (ldr_al.mpr ((hal k g).mp h).1) c⟩)
            refine up ?_ ?_
            · intro K2
              rw [F_X5_partCells_L83]
              by_cases c : ldr T bn u g = g
              · rw [c]
                rw [c] at fin
                exact Ok.t (by rw [n_le] <;> omega) fin
              · refine Ok.f (by rw [n_le] <;> omega) ?_
                obtain ⟨r, hr, p, q1, q2⟩ := one (ldr T bn u g) (by omega)
                refine Ok.cpe hr ?_
                have : p = true := q2.mpr p2
                subst this
                rw [q1]
                exact Ok.f (by decide) fin
            · intro K2 y hy ih2
              rw [F_X5_partCells_L83]
              refine Ok.f (by rw [n_le] <;> omega) ?_
              obtain ⟨r, hr, p, q1, q2⟩ := one y (by omega)
              refine Ok.cpe hr ?_
              have : p = false := by
                cases hp : p with
                | false => rfl
                | true => exact absurd (q2.mp hp) (p3 y hy)
              subst this
              rw [q1, show nI y + 1 = nI (y + 1) from nI_1 y]
              exact Ok.t rfl ih2
          have hyl : y ≤ ldr T bn u g := by
            by_cases c : y ≤ ldr T bn u g
            · exact c
            · exact absurd p2 (hno _ (by omega))
          exact lp2 bgf y hyl (by unfold bgf; omega)
        rcases hl4 with h0 | ⟨h0, hall⟩
        · refine Ok.t h0 ?_
          rw [nI_add]
          refine Ok.bxe (by omega) (by omega) ?_
          have lg := ldr_p T bn w g
          rw [n_cl (a := w * 116 + g) (by omega), Nat.mul_comm w, hw.1 g hgg]
          rw [Nat.mul_comm w] at scan
          exact scan _ lg.1 (fun k hk ha => lg.2.2 k hk ((hal k g).mp ha).1)
        · refine Ok.f h0 (scan g (Nat.le_refl _) (fun k hk ha => ?_))
          have h2 := (ldr_p T bn w g).2.2
          rw [hall g hgg] at h2
          exact h2 k hk ((hal k g).mp ha).1
    refine lp bgf 0 (Nat.zero_le _) (by unfold bgf; omega) _ (Sm.mi rfl Sm.rf) (fun u' hu' => ⟨fun g' hg' => ?_, ?_⟩) (fun g' h => absurd h (Nat.not_lt_zero _)) (by rw [ui_r]; rfl)
    · rw [ui_c (by decide)]; exact (hc u' hu').1 g' hg'
    · rw [ui_j (by omega)]; exact (hc u' hu').2
  have hpl : pcP G (fun g => decide (ldr T bn w g = g)) ≤ G := pcP_le G _
  by_cases c : pcP G (fun g => decide (ldr T bn w g = g)) = G
  · refine Ok.t (by rw [c]) (body 1 (Or.inr ⟨by decide, fun g hg => ?_⟩))
    have hall : ∀ g, g < G → (fun g => decide (ldr T bn w g = g)) g = true := by
      intro g hg
      cases hb : decide (ldr T bn w g = g) with
      | true => exact hb
      | false =>
        have := pcP_del (n := G) (k := g) (p := fun j => decide (ldr T bn w j = j) || decide (j = g)) hg (by simp)
        have e : (fun j => (decide (ldr T bn w j = j) || decide (j = g)) && !decide (j = g)) = (fun j => decide (ldr T bn w j = j)) := by
          funext j
          by_cases d : j = g
          · subst d; rw [hb]; simp
          · simp [d]
        rw [e] at this
        have := pcP_le G (fun j => decide (ldr T bn w j = j) || decide (j = g))
        omega
    exact of_decide_eq_true (hall g hg)
  · exact Ok.f (by rw [n_eq] <;> omega) (body 0 (Or.inl rfl))

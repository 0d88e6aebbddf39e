/-! LAYER 2: tree: the first test, by the class -/
def ftI (o : Option Nat) : Int32 := match o with | none => -1 | some t => nI t
/-- the least that a test leaves -/
def mwQ (T N : Nat) (an : Nat → Nat → Int64) (u i t M : Nat) : Prop := okT T N an u i M t ∧ ∀ w, okT T N an u i w t → M ≤ w
theorem mw_iff {T N : Nat} {an : Nat → Nat → Int64} {u i t M v : Nat} (ht : t < T) (hb : u.testBit t = false) (h : mwQ T N an u i t M) (hl : ldD T N an u i (v + 1)) : M = v ↔ okT T N an u i v t := by
  constructor
  · intro e; rw [← e]; exact h.1
  · intro hk
    have h1 := h.2 v hk
    have h2 : v + 1 ≤ M + 1 := ldD_ge hl (Or.inr ⟨t, ht, hb, h.1⟩)
    omega
theorem ft_end {T N : Nat} {an : Nat → Nat → Int64} {u i v : Nat} (hl : ldD T N an u i (v + 1)) (h : ∀ s, s < T → u.testBit s = false → ¬ okT T N an u i v s) : False := by
  rcases hl.1 with hc | ⟨t, g1, g2, g3⟩
  · exact hl.2 v (by omega) hc
  · exact h t g1 g2 g3
theorem X5_worst {T G : Nat} (hT : T ≤ 8) (hG : G ≤ 116) {bn : Nat → Nat → Int64} {u t g : Nat} (hu : u < 2 ^ T) (ht : t < T) (hg : g < G) {I : HI} {J : HJ} (hgr : I x_plan f_Plan_groups = nI G) (hc : clQ T G bn (2 ^ T) I) (hd : dpQ T G bn 0 I) : ∃ M, M ≤ 8 ∧ F_X5_worstBehind (nI u) (nI t) (nI g) I J = some (nI M) ∧ mwQ T G bn u g t M := by
  have h1 : (2 : Nat) ^ T ≤ 2 ^ 8 := Nat.pow_le_pow_right (by omega) hT
  obtain ⟨b1, b2⟩ := bit_or hT hu ht
  have main : Ok (F_X5_worstBehind (nI u) (nI t) (nI g) I J) (fun r => ∃ M, M ≤ 8 ∧ r = nI M ∧ mwQ T G bn u g t M) := by
    unfold F_X5_worstBehind F_X5_place
    refine Ok.cpe rfl ?_
    rw [show (116 : Int32) = nI 116 from rfl, n_mul, show nI (u * 116) + (0 : Int32) = nI (u * 116 + 0) from nI_add _ _, Nat.add_zero, Nat.mul_comm]
    have lp : ∀ K k, k ≤ G → G - k < K → ∀ M, M ≤ 8 → (∀ j, j < k → alD T bn u g j → canD T G bn M (u ||| 2 ^ t) j) → (M ≠ 0 → ∃ j, j < k ∧ alD T bn u g j ∧ ldD T G bn (u ||| 2 ^ t) j M) → Ok (F_X5_worstBehind_L13 (nI u) (nI t) (nI g) (nI (116 * u)) I J K (nI M) (nI k)) (fun r => ∃ M, M ≤ 8 ∧ r = nI M ∧ mwQ T G bn u g t M) := by
      refine up ?_ ?_
      · intro K M m0 m1 m2
        rw [F_X5_worstBehind_L13]
        refine Ok.t (by rw [hgr, n_le] <;> omega) (Ok.mk ⟨M, m0, rfl, m1, fun w hw => ?_⟩)
        by_cases e : M = 0
        · omega
        · obtain ⟨j, j1, j2, j3⟩ := m2 e
          exact ldD_ge j3 (hw j j1 j2)
      · intro K k hk ih M m0 m1 m2
        have lk := (ldr_p T bn u k).1
        have lg := (ldr_p T bn u g).1
        rw [F_X5_worstBehind_L13]
        refine Ok.f (by rw [hgr, n_le] <;> omega) ?_
        rw [nI_add, nI_add]
        refine Ok.bxe (by omega) (by omega) (Ok.bxe (by omega) (by omega) (Ok.lbv ?_))
        rw [n_cl (by omega), n_cl (by omega), (hc u hu).1 k hk, (hc u hu).1 g hg, show nI k + (1 : Int32) = nI (k + 1) from nI_1 k]
        by_cases c : ldr T bn u k = ldr T bn u g
        · have ha : alD T bn u g k := ldr_al.mp c.symm
          refine Ok.t (by rw [c]) ?_
          rw [show nI u ||| oshl (1 : Int32) (nI t) = nI (u ||| 2 ^ t) from b1]
          obtain ⟨v, v1, v2⟩ := X5_depthAt (J := J) hT hG (U := 0) (Nat.zero_le _) b2 hk hc hd
          have hv := ldD_le v2
          refine Ok.cpe v1 (Ok.lbv ?_)
          rw [omax_n (by omega) (by omega)]
          refine ih (max M v) (by omega) (fun j hj hja => ?_) (fun hne => ?_)
          · by_cases e : j = k
            · rw [e]; exact canD_mo v2.1 (by omega)
            · exact canD_mo (m1 j (by omega) hja) (by omega)
          · by_cases f : M ≤ v
            · rw [Nat.max_eq_right f]; exact ⟨k, by omega, ha, v2⟩
            · rw [Nat.max_eq_left (by omega)]
              obtain ⟨j, x1, x2, x3⟩ := m2 (by omega)
              exact ⟨j, by omega, x2, x3⟩
        · refine Ok.f (by rw [n_eq] <;> omega) (ih M m0 (fun j hj hja => ?_) (fun hne => ?_))
          · by_cases e : j = k
            · rw [e] at hja; exact absurd (ldr_al.mpr hja).symm c
            · exact m1 j (by omega) hja
          · obtain ⟨j, x1, x2, x3⟩ := m2 hne
            exact ⟨j, by omega, x2, x3⟩
    exact lp bgf 0 (Nat.zero_le _) (by unfold bgf; omega) 0 (by omega) (fun j h => absurd h (Nat.not_lt_zero _)) (fun h => absurd rfl h)
  obtain ⟨r, e, M, m0, m1, m2⟩ := main
  exact ⟨M, m0, by rw [e, m1], m2⟩
theorem X5_first {T G : Nat} (hT : T ≤ 8) (hG : G ≤ 116) {bn : Nat → Nat → Int64} {u g : Nat} (hu : u < 2 ^ T) (hg : g < G) {I : HI} {J : HJ} (hgr : I x_plan f_Plan_groups = nI G) (htn : I x_plan f_Plan_tests = nI T) (hc : clQ T G bn (2 ^ T) I) (hd : dpQ T G bn 0 I) : ∃ o, F_X5_firstTest (nI u) (nI g) I J = some (ftI o) ∧ ftQ T G bn u g o := by
  have h1 : (2 : Nat) ^ T ≤ 2 ^ 8 := Nat.pow_le_pow_right (by omega) hT
  have main : Ok (F_X5_firstTest (nI u) (nI g) I J) (fun r => ∃ o, r = ftI o ∧ ftQ T G bn u g o) := by
    unfold F_X5_firstTest
    obtain ⟨d, d1, d2⟩ := X5_depthAt (J := J) hT hG (U := 0) (Nat.zero_le _) hu hg hc hd
    refine Ok.cpe d1 ?_
    have hd8 := ldD_le d2
    cases d with
    | zero =>
      show Ok (F_X5_firstTest_L10 (nI u) (nI g) (nI 0) I J (999999 + 1) 0) _
      rw [F_X5_firstTest_L10]
      exact Ok.ite (fun _ => Ok.mk ⟨none, rfl, Or.inl ⟨d2.1, rfl⟩⟩) (fun _ => Ok.t (by decide) (Ok.mk ⟨none, rfl, Or.inl ⟨d2.1, rfl⟩⟩))
    | succ v =>
      have lp : ∀ K t, t ≤ T → T - t < K → (∀ s, s < t → u.testBit s = false → ¬ okT T G bn u g v s) → Ok (F_X5_firstTest_L10 (nI u) (nI g) (nI (v + 1)) I J K (nI t)) (fun r => ∃ o, r = ftI o ∧ ftQ T G bn u g o) := by
        refine up ?_ ?_
        · intro K hno
          exact (ft_end d2 hno).elim
        · intro K t ht ih hno
          rw [F_X5_firstTest_L10]
          refine Ok.f (by rw [htn, n_le] <;> omega) (Ok.f (n_z (by omega) (by omega)) (Ok.lbv ?_))
          rw [show nI t + (1 : Int32) = nI (t + 1) from nI_1 t, show (1 : Int32) = nI 1 from rfl, t_iu (by omega), bi_n (by omega)]
          cases hb : u.testBit t with
          | true =>
            refine Ok.f (by decide) (ih (fun s hs hsb => ?_))
            by_cases e : s = t
            · rw [e, hb] at hsb; cases hsb
            · exact hno s (by omega) hsb
          | false =>
            obtain ⟨M, m0, m1, m2⟩ := X5_worst (J := J) hT hG hu ht hg hgr hc hd
            refine Ok.t rfl (Ok.cpe m1 ?_)
            rw [nI_add]
            have hiff := mw_iff ht hb m2 d2
            by_cases e : M = v
            · refine Ok.t (by rw [e, Nat.add_comm]) (Ok.mk ⟨some t, rfl, Or.inr ⟨v, t, d2, ht, hb, hiff.mp e, hno, rfl⟩⟩)
            · refine Ok.f (by rw [n_eq] <;> omega) (ih (fun s hs hsb => ?_))
              by_cases f : s = t
              · rw [f]; exact fun hk => e (hiff.mpr hk)
              · exact hno s (by omega) hsb
      exact lp bgf 0 (Nat.zero_le _) (by unfold bgf; omega) (fun s h => absurd h (Nat.not_lt_zero _))
  obtain ⟨r, e, o, o1, o2⟩ := main
  exact ⟨o, by rw [e, o1], o2⟩
theorem X5_groupOf {C : List Nat} (hC : C.length ≤ 116) {gp : Nat → Nat} {f l : Nat} (hl : l < C.length) (hf : C.getD l 0 = f) (hfb : f < 1000) (hCb : ∀ k, k < C.length → C.getD k 0 < 1000) (hno : ∀ k, k < l → C.getD k 0 ≠ f) {I : HI} {J : HJ} (ha : agX C I) (hg : ∀ i, i < C.length → I x_plan_groupOf i = nI (gp i)) : F_X5_groupOfFault (nI f) I J = some (nI (gp l)) := by
  unfold F_X5_groupOfFault
  have lp : ∀ K k, k ≤ l → l - k < K → F_X5_groupOfFault_L2 (nI f) I J (fun (y1 : Int32) => bx y1 116 <| some (I x_plan_groupOf (Int32.toNatClampNeg y1))) K (nI k) = some (nI (gp l)) := by
    refine up ?_ ?_
    · intro K
      rw [F_X5_groupOfFault_L2, ha.1, if_neg (by rw [n_le] <;> omega), n_bx (by omega) (by omega), n_cl (by omega), ha.2 l hl, hf, if_pos rfl, n_bx (by omega) (by omega), hg l hl]
    · intro K k hk ih
      have := hno k hk
      have hb := hCb k (by omega)
      rw [F_X5_groupOfFault_L2, ha.1, if_neg (by rw [n_le] <;> omega), n_bx (by omega) (by omega), n_cl (by omega), ha.2 k (by omega), if_neg (by rw [n_eq] <;> omega), nI_1]
      exact ih
  exact lp bgf 0 (Nat.zero_le _) (by unfold bgf; omega)
theorem X5_sizeOf {C : List Nat} (hC : C.length ≤ 116) {gp : Nat → Nat} {g : Nat} (hgb : g < 1000) (hgp : ∀ i, i < C.length → gp i < 1000) {I : HI} {J : HJ} (ha : agX C I) (hg : ∀ i, i < C.length → I x_plan_groupOf i = nI (gp i)) : F_X5_sizeOfGroup (nI g) I J = some (nI (pcP C.length (fun i => decide (gp i = g)))) := by
  unfold F_X5_sizeOfGroup
  have lp : ∀ K k, k ≤ C.length → C.length - k < K → F_X5_sizeOfGroup_L4 (nI g) I J K (nI (pcP k (fun i => decide (gp i = g)))) (nI k) = some (nI (pcP C.length (fun i => decide (gp i = g)))) := by
    refine up ?_ ?_
    · intro K
      rw [F_X5_sizeOfGroup_L4, ha.1, if_pos (by rw [n_le] <;> omega)]
    · intro K k hk ih
      have hb := hgp k hk
      rw [F_X5_sizeOfGroup_L4, ha.1, if_neg (by rw [n_le] <;> omega), n_bx (by omega) (by omega), n_cl (by omega), hg k hk, show nI k + (1 : Int32) = nI (k + 1) from nI_1 k]
      simp only [lb]
      rw [pcP_s] at ih
      by_cases c : gp k = g
      · rw [decide_eq_true c, if_pos rfl] at ih
        rw [if_pos (by rw [c]), nI_1]; exact ih
      · rw [decide_eq_false c, if_neg (by decide)] at ih
        rw [if_neg (by rw [n_eq] <;> omega), show (0 : Int32) = nI 0 from rfl, nI_add]; exact ih
  have := lp bgf 0 (Nat.zero_le _) (by unfold bgf; omega)
  exact this

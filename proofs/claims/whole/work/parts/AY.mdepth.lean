/-! LAYER 2: tree: the reference's depths -/
def mdQ (T N : Nat) (an : Nat → Nat → Int64) (I : HI) : Prop := ∀ u i, u < 2 ^ T → i < N → I m_depth (116 * u + i) = -1 ∨ ∃ v, I m_depth (116 * u + i) = nI v ∧ ldD T N an u i v
def rQ (T N : Nat) (an : Nat → Nat → Int64) (I : HI) (J : HJ) : Prop := I m_self f_Model_agreeMany = nI N ∧ I m_self f_Model_testMany = nI T ∧ ldQ T N an (2 ^ T) I ∧ awQ T N an J ∧ mdQ T N an I
theorem rQ.kd {T N : Nat} {an : Nat → Nat → Int64} {I I' : HI} {J : HJ} (h : rQ T N an I J) (s : Sm [(m_depth, none)] I I') (hm : mdQ T N an I') : rQ T N an I' J := ⟨by rw [s _ _ rfl]; exact h.1, by rw [s _ _ rfl]; exact h.2.1, fun u i hu hi => by rw [s _ _ rfl]; exact h.2.2.1 u i hu hi, h.2.2.2.1, hm⟩
theorem rQ.ko {T N : Nat} {an : Nat → Nat → Int64} {I I' : HI} {J J' : HJ} (h : rQ T N an I J) (s : Sm [(m_self, some f_Model_rowMany)] I I') (s2 : Sm [(m_row, none)] J J') : rQ T N an I' J' := ⟨by rw [s _ _ rfl]; exact h.1, by rw [s _ _ rfl]; exact h.2.1, fun u i hu hi => by rw [s _ _ rfl]; exact h.2.2.1 u i hu hi, fun t i ht hi => by rw [s2 _ _ rfl]; exact h.2.2.2.1 t i ht hi, fun u i hu hi => by rw [s _ _ rfl]; exact h.2.2.2.2 u i hu hi⟩
theorem X12_alike {T N : Nat} (hT : T ≤ 8) (hN : N ≤ 116) {an : Nat → Nat → Int64} {u i j : Nat} (hu : u < 2 ^ T) (hi : i < N) (hj : j < N) {I : HI} {J : HJ} (h : rQ T N an I J) : F_X12_areAlike (nI u) (nI i) (nI j) I J = some (b1 (decide (ldr T an u i = ldr T an u j))) := by
  have hp1 : (2 : Nat) ^ T ≤ 2 ^ 8 := Nat.pow_le_pow_right (by omega) hT
  have l1 := (ldr_p T an u i).1
  have l2 := (ldr_p T an u j).1
  unfold F_X12_areAlike
  rw [X12_firstOf (by omega) (by omega), X12_firstOf (by omega) (by omega), h.2.2.1 u i hu hi, h.2.2.1 u j hu hj]
  simp only [cp, Option.bind_some]
  by_cases c : ldr T an u i = ldr T an u j
  · rw [if_pos (by rw [c]), decide_eq_true c]; rfl
  · rw [if_neg (by rw [n_eq] <;> omega), decide_eq_false c]; rfl
theorem X12_parts {T N : Nat} (hT : T ≤ 8) (hN : N ≤ 116) {an : Nat → Nat → Int64} {u i t : Nat} (hu : u < 2 ^ T) (hi : i < N) (ht : t < T) {I : HI} {J : HJ} (h : rQ T N an I J) : ∃ p : Bool, F_X12_parts (nI t) (nI u) (nI i) I J = some (b1 p) ∧ (p = true ↔ ptD T N an u i t) := by
  have main : Ok (F_X12_parts (nI t) (nI u) (nI i) I J) (fun r => ∃ p : Bool, r = b1 p ∧ (p = true ↔ ptD T N an u i t)) := by
    unfold F_X12_parts
    have lp : ∀ K k, k ≤ N → N - k < K → (∀ j, j < k → alD T an u i j → an t j = an t i) → Ok (F_X12_parts_L3 (nI t) (nI u) (nI i) I J K (nI k)) (fun r => ∃ p : Bool, r = b1 p ∧ (p = true ↔ ptD T N an u i t)) := by
      refine up ?_ ?_
      · intro K hno
        rw [F_X12_parts_L3]
        exact Ok.t (by rw [h.1, n_le] <;> omega) (Ok.mk ⟨false, rfl, (fun hh => by cases hh), fun ⟨j, j1, j2, j3⟩ => absurd (hno j j1 j2) j3⟩)
      · intro K k hk ih hno
        rw [F_X12_parts_L3]
        refine Ok.f (by rw [h.1, n_le] <;> omega) (Ok.cpe (X12_alike hT hN hu hk hi h) (Ok.lbv ?_))
        rw [show nI k + (1 : Int32) = nI (k + 1) from nI_1 k]
        by_cases c : ldr T an u k = ldr T an u i
        · have ha : alD T an u i k := ldr_al.mp c.symm
          rw [decide_eq_true c]
          refine Ok.f (by decide) ?_
          rw [show (116 : Int32) = nI 116 from rfl, n_mul, nI_add, nI_add]
          refine Ok.bxe (by omega) (by omega) (Ok.bxe (by omega) (by omega) ?_)
          rw [n_cl (by omega), n_cl (by omega), h.2.2.2.1 t k ht hk, h.2.2.2.1 t i ht hi]
          refine Ok.ite (fun d => ih (fun j hj hja => ?_)) (fun d => Ok.mk ⟨true, rfl, fun _ => ⟨k, hk, ha, fun e => d (cm0.mpr e)⟩, fun _ => rfl⟩)
          by_cases e : j = k
          · rw [e]; exact cm0.mp d
          · exact hno j (by omega) hja
        · rw [decide_eq_false c]
          refine Ok.t rfl (ih (fun j hj hja => ?_))
          by_cases e : j = k
          · rw [e] at hja; exact absurd (ldr_al.mpr hja).symm c
          · exact hno j (by omega) hja
    exact lp bgf 0 (Nat.zero_le _) (by unfold bgf; omega) (fun j h => absurd h (Nat.not_lt_zero _))
  obtain ⟨r, e, p, p1, p2⟩ := main
  exact ⟨p, by rw [e, p1], p2⟩
/-- what a call of depthOf leaves -/
def dpR (T N : Nat) (an : Nat → Nat → Int64) (u i : Nat) (I : HI) (J : HJ) (q : Int32 × HI × HJ) : Prop := ∃ v, q.1 = nI v ∧ ldD T N an u i v ∧ q.2.2 = J ∧ Sm [(m_depth, none)] I q.2.1 ∧ mdQ T N an q.2.1
theorem X12_depthBy {T N : Nat} (hT : T ≤ 8) (hN : N ≤ 116) {an : Nat → Nat → Int64} {u i t : Nat} (hu : u < 2 ^ T) (hi : i < N) (ht : t < T) {rc : Int32 → Int32 → HI → HJ → Option (Int32 × HI × HJ)} (J : HJ) (hrc : ∀ k I, k < N → rQ T N an I J → Ok (rc (nI (u ||| 2 ^ t)) (nI k) I J) (dpR T N an (u ||| 2 ^ t) k I J)) (I : HI) (h : rQ T N an I J) : Ok (F_X12_depthBy rc (nI t) (nI u) (nI i) I J) (fun q => ∃ M, M ≤ 8 ∧ q.1 = nI (M + 1) ∧ mwQ T N an u i t M ∧ q.2.2 = J ∧ Sm [(m_depth, none)] I q.2.1 ∧ mdQ T N an q.2.1) := by
  have hp1 : (2 : Nat) ^ T ≤ 2 ^ 8 := Nat.pow_le_pow_right (by omega) hT
  obtain ⟨b1', b2⟩ := bit_or hT hu ht
  unfold F_X12_depthBy
  refine Ok.lbv ?_
  rw [show nI u ||| oshl (1 : Int32) (nI t) = nI (u ||| 2 ^ t) from b1']
  have lp : ∀ K k, k ≤ N → N - k < K → ∀ M I', M ≤ 8 → rQ T N an I' J → Sm [(m_depth, none)] I I' → (∀ j, j < k → alD T an u i j → ldr T an (u ||| 2 ^ t) j = j → canD T N an M (u ||| 2 ^ t) j) → (M ≠ 0 → ∃ j, j < k ∧ alD T an u i j ∧ ldD T N an (u ||| 2 ^ t) j M) → Ok (F_X12_depthBy_L13 rc (nI u) (nI i) (nI (u ||| 2 ^ t)) (fun (y14 : Int32) (I15 : HI) (J16 : HJ) => some ((y14 + (1 : Int32)), I15, J16)) K (nI M) (nI k) I' J) (fun q => ∃ M, M ≤ 8 ∧ q.1 = nI (M + 1) ∧ mwQ T N an u i t M ∧ q.2.2 = J ∧ Sm [(m_depth, none)] I q.2.1 ∧ mdQ T N an q.2.1) := by
    refine up ?_ ?_
    · intro K M I' m0 hr s1 m1 m2
      rw [F_X12_depthBy_L13]
      refine Ok.t (by rw [hr.1, n_le] <;> omega) (Ok.mk ⟨M, m0, nI_1 M, ⟨fun j hj hja => ?_, fun w hw => ?_⟩, rfl, s1, hr.2.2.2.2⟩)
      · obtain ⟨l1, l2, _⟩ := ldr_p T an (u ||| 2 ^ t) j
        have hja' : alD T an u i (ldr T an (u ||| 2 ^ t) j) := hja.tr ((alD_or ht).mp l2).1.sy
        exact canD_al hj l2 (m1 _ (by omega) hja' ldr_s)
      · by_cases e : M = 0
        · omega
        · obtain ⟨j, j1, j2, j3⟩ := m2 e
          exact ldD_ge j3 (hw j j1 j2)
    · intro K k hk ih M I' m0 hr s1 m1 m2
      have lk := (ldr_p T an (u ||| 2 ^ t) k).1
      have skip : ¬ (alD T an u i k ∧ ldr T an (u ||| 2 ^ t) k = k) → Ok (F_X12_depthBy_L13 rc (nI u) (nI i) (nI (u ||| 2 ^ t)) (fun (y14 : Int32) (I15 : HI) (J16 : HJ) => some ((y14 + (1 : Int32)), I15, J16)) K (nI M) (nI (k + 1)) I' J) (fun q => ∃ M, M ≤ 8 ∧ q.1 = nI (M + 1) ∧ mwQ T N an u i t M ∧ q.2.2 = J ∧ Sm [(m_depth, none)] I q.2.1 ∧ mdQ T N an q.2.1) := by
        intro hsk
        refine ih M I' m0 hr s1 (fun j hj hja hl => ?_) (fun hne => ?_)
        · by_cases e : j = k
          · rw [e] at hja hl; exact absurd ⟨hja, hl⟩ hsk
          · exact m1 j (by omega) hja hl
        · obtain ⟨j, x1, x2, x3⟩ := m2 hne
          exact ⟨j, by omega, x2, x3⟩
      rw [F_X12_depthBy_L13]
      refine Ok.f (by rw [hr.1, n_le] <;> omega) (Ok.cpe (X12_alike hT hN hu hk hi hr) (Ok.lbv ?_))
      rw [show nI k + (1 : Int32) = nI (k + 1) from nI_1 k]
      by_cases c : ldr T an u k = ldr T an u i
      · have ha : alD T an u i k := ldr_al.mp c.symm
        rw [decide_eq_true c]
        refine Ok.f (by decide) (Ok.cpe (X12_firstOf (by omega) (by omega)) ?_)
        rw [hr.2.2.1 _ k b2 hk]
        by_cases d : ldr T an (u ||| 2 ^ t) k = k
        · refine Ok.t (by rw [d]) ?_
          refine Ok.call (hrc k I' hk hr) (fun r10 I11 J12 _ hP => ?_)
          obtain ⟨v, v1, v2, v3, v4, v5⟩ := hP
          simp only at v1 v3 v4 v5
          subst v1 v3
          have hv := ldD_le v2
          refine Ok.lbv ?_
          rw [omax_n (by omega) (by omega)]
          refine ih (max M v) I11 (by omega) (hr.kd v4 v5) (Sm.tr (by decide) s1 v4) (fun j hj hja hl => ?_) (fun hne => ?_)
          · by_cases e : j = k
            · rw [e]; exact canD_mo v2.1 (by omega)
            · exact canD_mo (m1 j (by omega) hja hl) (by omega)
          · by_cases f : M ≤ v
            · rw [Nat.max_eq_right f]; exact ⟨k, by omega, ha, v2⟩
            · rw [Nat.max_eq_left (by omega)]
              obtain ⟨j, x1, x2, x3⟩ := m2 (by omega)
              exact ⟨j, by omega, x2, x3⟩
        · exact Ok.f (by rw [n_eq] <;> omega) (skip (fun hh => d hh.2))
      · rw [decide_eq_false c]
        exact Ok.t rfl (skip (fun hh => c (ldr_al.mpr hh.1).symm))
  exact lp bgf 0 (Nat.zero_le _) (by unfold bgf; omega) 0 I (by omega) h Sm.rf (fun j h => absurd h (Nat.not_lt_zero _)) (fun h => absurd rfl h)
theorem miss_or {T u t : Nat} (ht : t < T) (hb : u.testBit t = false) : pcP T (fun s => !(u ||| 2 ^ t).testBit s) < pcP T (fun s => !u.testBit s) := by
  have hd := pcP_del (n := T) (k := t) (p := fun s => !u.testBit s) ht (by simp [hb])
  have e : (fun s => !(u ||| 2 ^ t).testBit s) = (fun s => (!u.testBit s) && !decide (s = t)) := by
    funext s
    rw [tb_or, Bool.not_or]
    by_cases c : s = t
    · subst c; simp
    · have : ¬ t = s := fun e => c e.symm
      simp [c, this]
  rw [e]; omega
theorem X12_depthOf {T N : Nat} (hT : T ≤ 8) (hN : N ≤ 116) {an : Nat → Nat → Int64} (J : HJ) : ∀ (n u i : Nat) (I : HI), u < 2 ^ T → i < N → pcP T (fun s => !u.testBit s) < n → rQ T N an I J → Ok (F_X12_depthOf n (nI u) (nI i) I J) (dpR T N an u i I J) := by
  have hp1 : (2 : Nat) ^ T ≤ 2 ^ 8 := Nat.pow_le_pow_right (by omega) hT
  intro n
  induction n with
  | zero => intro u i I _ _ h; exact absurd h (Nat.not_lt_zero _)
  | succ n ihn =>
    intro u i I hu hi hn h
    rw [F_X12_depthOf]
    unfold F_X12_depthOf_B
    refine Ok.lbv ?_
    rw [show (116 : Int32) = nI 116 from rfl, n_mul, nI_add]
    refine Ok.bxe (by omega) (by omega) ?_
    rw [n_cl (by omega)]
    refine Ok.ite (fun c => ?_) (fun c => Ok.bxe (by omega) (by omega) ?_)
    · have fin : ∀ v I', Sm [(m_depth, none)] I I' → mdQ T N an I' → ldD T N an u i v → ∀ y, y = nI v → Ok (bx (nI (116 * u + i)) 29696 <| lb (ui I' m_depth (Int32.toNatClampNeg (nI (116 * u + i))) y) fun I21 => bx (nI (116 * u + i)) 29696 <| some ((I21 m_depth (116 * u + i)), I21, J)) (dpR T N an u i I J) := by
        intro v I' s1 s2 s3 y hy
        refine Ok.bxe (by omega) (by omega) (Ok.lbv (Ok.bxe (by omega) (by omega) (Ok.mk ⟨v, ?_, s3, rfl, Sm.mi rfl s1, fun u' i' hu' hi' => ?_⟩))) <;> dsimp only <;> rw [n_cl (by omega)]
        · rw [ui_r, hy]
        · rw [ui_s]
          by_cases e : 116 * u' + i' = 116 * u + i
          · have e1 : u' = u := by omega
            have e2 : i' = i := by omega
            rw [if_pos e, e1, e2]; exact Or.inr ⟨v, hy, s3⟩
          · rw [if_neg e]; exact s2 u' i' hu' hi'
      have lp : ∀ K t, t ≤ T → T - t < K → ∀ v I', v ≤ 1000000 → rQ T N an I' J → Sm [(m_depth, none)] I I' → (v < 1000000 → canD T N an v u i ∧ ∃ s, s < T ∧ ptD T N an u i s) → (∀ s, s < t → u.testBit s = false → ptD T N an u i s → v < 1000000 ∧ ∀ w, okT T N an u i w s → v ≤ w + 1) → Ok (F_X12_depthOf_L32 (F_X12_depthOf n) (nI u) (nI i) (nI (116 * u + i)) (fun (y15 : Int32) (I16 : HI) (J17 : HJ) => lb (fun (y18 : Int32) (y19 : Int32) => bx y18 29696 <| lb (ui I16 m_depth (Int32.toNatClampNeg y18) y19) fun I21 => bx (nI (116 * u + i)) 29696 <| some ((I21 m_depth (116 * u + i)), I21, J17)) fun j20 => if y15 = (1000000 : Int32) then j20 (nI (116 * u + i)) (0 : Int32) else j20 (nI (116 * u + i)) y15) K (nI v) (nI t) I' J) (dpR T N an u i I J) := by
        refine up ?_ ?_
        · intro K v I' v0 hr s1 v1 v2
          rw [F_X12_depthOf_L32]
          refine Ok.t (by rw [hr.2.1, n_le] <;> omega) (Ok.lbv ?_)
          by_cases e : v = 1000000
          · refine Ok.t (show nI v = (1000000 : Int32) from by rw [e]; rfl) (fin 0 I' s1 hr.2.2.2.2 ⟨fun t ht j hj hja => ?_, fun w h => absurd h (Nat.not_lt_zero _)⟩ 0 rfl)
            cases hb : u.testBit t with
            | true => exact (hja t ht hb).symm
            | false =>
              by_cases d : an t j = an t i
              · exact d
              · have := (v2 t ht hb ⟨j, hj, hja, d⟩).1; omega
          · obtain ⟨x1, s, x2, x3⟩ := v1 (by omega)
            refine Ok.f (show ¬ nI v = (1000000 : Int32) from fun e' => e (by have e'' : nI v = nI 1000000 := e'; rw [n_eq (by omega) (by omega)] at e''; exact e'')) (fin v I' s1 hr.2.2.2.2 (ldD_fin hi (show T ≤ 1000000 by omega) v0 (fun h0 => ?_) (fun _ => x1) (fun t ht htb hpt => (v2 t ht htb hpt).2)) _ rfl)
            obtain ⟨j, j1, j2, j3⟩ := x3
            exact j3 (h0 s x2 j j1 j2)
        · intro K t ht ih v I' v0 hr s1 v1 v2
          rw [F_X12_depthOf_L32]
          refine Ok.f (by rw [hr.2.1, n_le] <;> omega) (Ok.cpe (t_hasI (by omega)) (Ok.lbv ?_))
          rw [bi_n (by omega), show nI t + (1 : Int32) = nI (t + 1) from nI_1 t]
          cases hb : u.testBit t with
          | true =>
            refine Ok.f (by decide) (ih v I' v0 hr s1 v1 (fun s hs hsb hpt => ?_))
            by_cases e : s = t
            · rw [e, hb] at hsb; cases hsb
            · exact v2 s (by omega) hsb hpt
          | false =>
            obtain ⟨p, p1, p2⟩ := X12_parts hT hN hu hi ht hr
            refine Ok.t rfl (Ok.cpe p1 ?_)
            cases p with
            | false =>
              refine Ok.t rfl (ih v I' v0 hr s1 v1 (fun s hs hsb hpt => ?_))
              by_cases e : s = t
              · rw [e] at hpt; have := p2.mpr hpt; cases this
              · exact v2 s (by omega) hsb hpt
            | true =>
              have hpt := p2.mp rfl
              have hms := miss_or ht hb
              refine Ok.f (by decide) ?_
              refine Ok.call (X12_depthBy hT hN hu hi ht J (fun k I2 hk hr2 => ihn _ k I2 (bit_or hT hu ht).2 hk (by omega) hr2) I' hr) (fun r11 I12 J13 _ hP => ?_)
              obtain ⟨M, m0, m1, m2, m3, m4, m5⟩ := hP
              simp only at m1 m3 m4 m5
              subst m1 m3
              refine Ok.lbv ?_
              rw [omin_n (by omega) (by omega)]
              refine ih (min v (M + 1)) I12 (by omega) (hr.kd m4 m5) (Sm.tr (by decide) s1 m4) (fun hlt => ⟨?_, t, ht, hpt⟩) (fun s hs hsb hps => ⟨by omega, fun w hw => ?_⟩)
              · by_cases e : v ≤ M + 1
                · rw [Nat.min_eq_left e] at hlt ⊢; exact (v1 hlt).1
                · rw [Nat.min_eq_right (by omega)]
                  exact Or.inr ⟨t, ht, hb, m2.1⟩
              · by_cases e : s = t
                · rw [e] at hw; have := m2.2 w hw; omega
                · have := (v2 s (by omega) hsb hps).2 w hw; omega
      exact lp bgf 0 (Nat.zero_le _) (by unfold bgf; omega) 1000000 I (Nat.le_refl _) h Sm.rf (fun hlt => absurd hlt (Nat.lt_irrefl _)) (fun s h => absurd h (Nat.not_lt_zero _))
    · rcases h.2.2.2.2 u i hu hi with e | ⟨v, v1, v2⟩
      · exact absurd e c
      · exact Ok.mk ⟨v, v1, v2, rfl, Sm.rf, h.2.2.2.2⟩
theorem X12_first {T N : Nat} (hT : T ≤ 8) (hN : N ≤ 116) {an : Nat → Nat → Int64} {u i : Nat} (hu : u < 2 ^ T) (hi : i < N) (I : HI) (J : HJ) (h : rQ T N an I J) : Ok (F_X12_firstTest (nI u) (nI i) I J) (fun q => ∃ o, q.1 = ftI o ∧ ftQ T N an u i o ∧ q.2.2 = J ∧ Sm [(m_depth, none)] I q.2.1 ∧ mdQ T N an q.2.1) := by
  have hp1 : (2 : Nat) ^ T ≤ 2 ^ 8 := Nat.pow_le_pow_right (by omega) hT
  have hms : ∀ u : Nat, pcP T (fun s => !u.testBit s) < 20 := fun u => by have := pcP_le T (fun s => !u.testBit s); omega
  unfold F_X12_firstTest
  refine Ok.call (X12_depthOf hT hN J 20 u i I hu hi (hms u) h) (fun r1 I2 J3 _ hP => ?_)
  obtain ⟨d, d1, d2, d3, d4, d5⟩ := hP
  simp only at d1 d3 d4 d5
  subst d1 d3
  have hd := ldD_le d2
  cases d with
  | zero => exact Ok.t rfl (Ok.mk ⟨none, rfl, Or.inl ⟨d2.1, rfl⟩, rfl, d4, d5⟩)
  | succ v =>
    refine Ok.f (show ¬ nI (v + 1) = nI 0 by rw [n_eq] <;> omega) ?_
    have lp : ∀ K t, t ≤ T → T - t < K → ∀ I', rQ T N an I' J3 → Sm [(m_depth, none)] I I' → (∀ s, s < t → u.testBit s = false → ¬ okT T N an u i v s) → Ok (F_X12_firstTest_L16 (nI u) (nI i) (nI (v + 1)) K (nI t) I' J3) (fun q => ∃ o, q.1 = ftI o ∧ ftQ T N an u i o ∧ q.2.2 = J3 ∧ Sm [(m_depth, none)] I q.2.1 ∧ mdQ T N an q.2.1) := by
      refine up ?_ ?_
      · intro K I' _ _ hno
        exact (ft_end d2 hno).elim
      · intro K t ht ih I' hr s1 hno
        rw [F_X12_firstTest_L16]
        refine Ok.cpe (t_hasI (by omega)) (Ok.lbv ?_)
        rw [bi_n (by omega), show nI t + (1 : Int32) = nI (t + 1) from nI_1 t]
        cases hb : u.testBit t with
        | true =>
          refine Ok.f (by decide) (ih I' hr s1 (fun s hs hsb => ?_))
          by_cases e : s = t
          · rw [e, hb] at hsb; cases hsb
          · exact hno s (by omega) hsb
        | false =>
          obtain ⟨p, p1, p2⟩ := X12_parts hT hN hu hi ht hr
          refine Ok.t rfl (Ok.cpe p1 ?_)
          cases p with
          | false =>
            refine Ok.t rfl (ih I' hr s1 (fun s hs hsb hk => ?_))
            by_cases e : s = t
            · rw [e] at hk; have := p2.mpr (ldD_pt hi ht d2 hk); cases this
            · exact hno s (by omega) hsb hk
          | true =>
            refine Ok.f (by decide) ?_
            refine Ok.call (X12_depthBy hT hN hu hi ht J3 (fun k I2 hk hr2 => X12_depthOf hT hN J3 20 _ k I2 (bit_or hT hu ht).2 hk (hms _) hr2) I' hr) (fun r9 I10 J11 _ hP => ?_)
            obtain ⟨M, m0, m1, m2, m3, m4, m5⟩ := hP
            simp only at m1 m3 m4 m5
            subst m1 m3
            have hiff := mw_iff ht hb m2 d2
            by_cases e : M = v
            · exact Ok.t (by rw [e]) (Ok.mk ⟨some t, rfl, Or.inr ⟨v, t, d2, ht, hb, hiff.mp e, hno, rfl⟩, rfl, Sm.tr (by decide) s1 m4, m5⟩)
            · refine Ok.f (by rw [n_eq] <;> omega) (ih I10 (hr.kd m4 m5) (Sm.tr (by decide) s1 m4) (fun s hs hsb => ?_))
              by_cases f : s = t
              · rw [f]; exact fun hk => e (hiff.mpr hk)
              · exact hno s (by omega) hsb
    exact lp bgf 0 (Nat.zero_le _) (by unfold bgf; omega) I2 (h.kd d4 d5) d4 (fun s h => absurd h (Nat.not_lt_zero _))

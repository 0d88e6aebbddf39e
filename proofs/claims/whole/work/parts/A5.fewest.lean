/-! LAYER 2: parted: the fewest turns by the class -/
theorem low_neg {x : Int32} {i : Nat} (h1 : bi x i = true) (h2 : ∀ j, j < i → bi x j = false) (j : Nat) : bi (x &&& (-x)) j = decide (j = i) := by
  have hx : x ≠ 0 := fun e => by
    have e' : x = nI 0 := e
    rw [e', bi_z] at h1; cases h1
  obtain ⟨k, k1, k2, k3, k4⟩ := low32 hx
  have hk : k = i := by
    rcases Nat.lt_trichotomy k i with c | c | c
    · rw [h2 k c] at k2; cases k2
    · exact c
    · rw [k3 i c] at h1; cases h1
  subst hk
  have e : -x = (x - 1) ^^^ (-1 : Int32) := by
    apply Int32.toBitVec_inj.mp
    rw [Int32.toBitVec_neg, Int32.toBitVec_xor, Int32.toBitVec_sub]
    show -x.toBitVec = (x.toBitVec - 1#32) ^^^ (-1#32)
    rw [← BitVec.not_neg, show (-1#32 : BitVec 32) = BitVec.allOnes 32 from rfl, BitVec.xor_allOnes, BitVec.not_not]
  by_cases cj : j < 32
  · rw [bi_and, e, bi_not cj, k4 j]
    by_cases c1 : j < k
    · rw [if_pos c1, k3 j c1, decide_eq_false (by omega)]; rfl
    · rw [if_neg c1]
      by_cases c2 : j = k
      · rw [if_pos c2, c2, k2, decide_eq_true rfl]; rfl
      · rw [if_neg c2, decide_eq_false c2]
        cases bi x j <;> rfl
  · rw [bi_big (by omega), decide_eq_false (by omega)]
theorem and_bit {w y : Int32} {i : Nat} (hy : ∀ j, bi y j = decide (j = i)) : w &&& y = 0 ↔ bi w i = false := by
  constructor
  · intro h
    have h' : w &&& y = nI 0 := h
    have := bi_z i
    rw [← h', bi_and, hy, decide_eq_true rfl] at this
    simpa using this
  · intro h
    apply bi_ext
    intro j _
    show _ = bi (nI 0) j
    rw [bi_z, bi_and, hy]
    by_cases c : j = i
    · rw [c, h]; rfl
    · rw [decide_eq_false c]; simp
/-- the least, as far as looked: one setting of each taken first -/
theorem lsT_fin {cv : Nat → Int32} {N big v : Nat} {x : Int32} {i : Nat} (hb : 33 ≤ big) (hi : bi x i = true) (hv : v ≤ big) (h1 : v < big → cvr cv N v x) (h2 : ∀ s, s < N → bi (cv s) i = true → ∀ u, cvr cv N u (x &&& (cv s ^^^ (-1 : Int32))) → v ≤ u + 1) : lsT cv N big x v := by
  have key : ∀ u, cvr cv N u x → v ≤ u := by
    intro u hu
    cases u with
    | zero => have e : x = nI 0 := hu
              rw [e, bi_z] at hi; cases hi
    | succ u =>
      obtain ⟨s, g1, g2, g3⟩ := cvr_first hi hu
      exact h2 s g1 g2 u g3
  by_cases c : v < big
  · exact Or.inl ⟨h1 c, c, fun u hu hc => by have := key u hc; omega⟩
  · refine Or.inr ⟨by omega, fun u hu => ?_⟩
    have hp : pci x ≤ 32 := pcP_le 32 _
    have := key 32 (cvr_pc 32 hp hu)
    omega
theorem lsT_ge {cv : Nat → Int32} {N big w u : Nat} {x : Int32} (h : lsT cv N big x w) (hu : cvr cv N u x) : w ≤ u := by
  rcases h with ⟨_, _, a⟩ | ⟨_, a⟩
  · by_cases c : w ≤ u
    · exact c
    · exact absurd hu (a u (by omega))
  · exact absurd hu (a u)
theorem lsT_cv {cv : Nat → Int32} {N big w : Nat} {x : Int32} (h : lsT cv N big x w) (hw : w < big) : cvr cv N w x := by
  rcases h with ⟨a, _, _⟩ | ⟨a, _⟩
  · exact a
  · omega
def fwsQ (cv : Nat → Int32) (N m : Nat) (I : HI) : Prop := ∀ y, y < 2 ^ m → I x_parting_fewest y = -1 ∨ ∃ v, I x_parting_fewest y = nI v ∧ lsT cv N 99 (nI y) v
theorem X4_fewestFor {cv : Nat → Int32} {N m : Nat} {W : List Int32} (hm : m ≤ 12) (hWs : ∀ w, w ∈ W → ∃ s, s < N ∧ cv s = w) (hWc : ∀ s, s < N → cv s ≠ nI 0 → ∃ w, w ∈ W ∧ sbI (cv s) w) (h924 : W.length ≤ 924) : ∀ (n x d : Nat), x < 2 ^ m → pci (nI x) < n → pci (nI x) + d ≤ 12 → ∀ I J, wdQ W I → fwsQ cv N m I → Ok (F_X4_fewestFor n (nI x) (nI d) I J) (fun q => ∃ v, q.1 = nI v ∧ lsT cv N 99 (nI x) v ∧ q.2.2 = J ∧ Sm [(x_parting_fewest, none)] I q.2.1 ∧ fwsQ cv N m q.2.1) := by
  have h12 : (2 : Nat) ^ m ≤ 2 ^ 12 := Nat.pow_le_pow_right (by omega) hm
  intro n
  induction n with
  | zero => intro x d _ h; exact absurd h (Nat.not_lt_zero _)
  | succ n ihn =>
    intro x d hx hn hd I J hw hf
    rw [F_X4_fewestFor]
    unfold F_X4_fewestFor_B
    by_cases x0 : x = 0
    · subst x0
      exact Ok.t rfl (Ok.mk ⟨0, rfl, lsT_0 (by omega), rfl, Sm.rf, hf⟩)
    refine Ok.f (show ¬ nI x = nI 0 by rw [n_eq] <;> omega) (Ok.bxe (by omega) (by omega) (Ok.lbv ?_))
    rw [n_cl (by omega)]
    refine Ok.ite (fun c => ?_) (fun c => Ok.bxe (by omega) (by omega) ?_)
    · refine Ok.t (show nI d ≤ (12 : Int32) from (by rw [n_le (by omega) (by omega)]; omega : nI d ≤ nI 12)) (Ok.lbv ?_)
      obtain ⟨i, i1, _, i2, i3⟩ := ntNi (x := nI x) (fun e => x0 (by rw [n_eq] at e <;> omega))
      have hy := low_neg i2 i3
      generalize nI x &&& -nI x = y at hy ⊢
      have fin : ∀ v I', v ≤ 99 → wdQ W I' → fwsQ cv N m I' → Sm [(x_parting_fewest, none)] I I' → lsT cv N 99 (nI x) v → Ok (bx (nI x) 4096 <| lb (ui I' x_parting_fewest x (nI v)) fun I17 => some (nI v, I17, J)) (fun q => ∃ v, q.1 = nI v ∧ lsT cv N 99 (nI x) v ∧ q.2.2 = J ∧ Sm [(x_parting_fewest, none)] I q.2.1 ∧ fwsQ cv N m q.2.1) := by
        intro v I' _ h2 h3 h4 h5
        refine Ok.bxe (by omega) (by omega) (Ok.lbv (Ok.mk ⟨v, rfl, h5, rfl, Sm.mi rfl h4, fun y' hy' => ?_⟩))
        dsimp only
        rw [ui_s]
        by_cases e : y' = x
        · rw [if_pos e]; exact Or.inr ⟨v, rfl, by rw [e]; exact h5⟩
        · rw [if_neg e]; exact h3 y' hy'
      have lp : ∀ (kx : Int32 → HI → HJ → Option (Int32 × HI × HJ)) (Q : Int32 × HI × HJ → Prop), (∀ v I', v ≤ 99 → wdQ W I' → fwsQ cv N m I' → Sm [(x_parting_fewest, none)] I I' → lsT cv N 99 (nI x) v → Ok (kx (nI v) I' J) Q) → ∀ K k, k ≤ W.length → W.length - k < K → ∀ v I', v ≤ 99 → wdQ W I' → fwsQ cv N m I' → Sm [(x_parting_fewest, none)] I I' → (v < 99 → cvr cv N v (nI x)) → (∀ k', k' < k → bi (W.getD k' 0) i = true → ∀ u, cvr cv N u (nI x &&& (W.getD k' 0 ^^^ (-1 : Int32))) → v ≤ u + 1) → Ok (F_X4_fewestFor_L41 (F_X4_fewestFor n) (nI x) (nI d) y kx K (nI v) (nI k) I' J) Q := by
        intro kx Q hkx
        refine up ?_ ?_
        · intro K v I' b1 b2 b3 b4 b5 b6
          rw [F_X4_fewestFor_L41]
          refine Ok.t (by rw [b2.1, n_le] <;> omega) (hkx v I' b1 b2 b3 b4 (lsT_fin (by omega) i2 b1 b5 (fun s hs hsi u hu => ?_)))
          obtain ⟨w, w1, w2⟩ := hWc s hs (fun e => by rw [e, bi_z] at hsi; cases hsi)
          obtain ⟨k, k1, k2⟩ := m_getD w1
          refine b6 k k1 (by rw [k2]; exact w2 i hsi) u (cvr_sub (fun j hj => ?_) hu)
          rw [k2, bi_and, Bool.and_eq_true] at hj
          have hj32 := bi_lt hj.1
          rw [bi_and, bi_not hj32, hj.1]
          rw [bi_not hj32] at hj
          cases hc : bi (cv s) j with
          | false => rfl
          | true => rw [w2 j hc] at hj; exact absurd hj.2 (by decide)
        · intro K k hk ih v I' b1 b2 b3 b4 b5 b6
          rw [F_X4_fewestFor_L41]
          refine Ok.f (by rw [b2.1, n_le] <;> omega) (Ok.bxe (by omega) (by omega) (Ok.lbv ?_))
          rw [n_cl (by omega), b2.2 k hk, nI_1, nI_1]
          refine Ok.ite (fun c => ih v I' b1 b2 b3 b4 b5 (fun k' hk' hb => ?_)) (fun c => Ok.bxe (by omega) (by omega) ?_)
          · by_cases e : k' = k
            · rw [e] at hb
              have := (and_bit hy).mp c
              rw [this] at hb; cases hb
            · exact b6 k' (by omega) hb
          · have hbi : bi (W.getD k 0) i = true := by
              cases hh : bi (W.getD k 0) i with
              | true => rfl
              | false => exact absurd ((and_bit hy).mpr hh) c
            have hpd := pci_drop i2 hbi
            obtain ⟨z, z1, z2⟩ := n_andL hm hx (W.getD k 0 ^^^ (-1 : Int32))
            rw [z1] at hpd ⊢
            refine Ok.call (ihn z (d + 1) z2 (by omega) (by omega) I' J b2 b3) (fun r I2 J2 _ hP => ?_)
            obtain ⟨w, p1, p2, p3, p4, p5⟩ := hP
            simp only at p1 p3 p4 p5
            subst p1 p3
            have hw99 := lsT_le p2
            refine Ok.lbv ?_
            rw [nI_1, omin_n (by omega) (by omega)]
            refine ih _ I2 (by omega) ⟨by rw [p4 _ _ rfl]; exact b2.1, fun j hj => by rw [p4 _ _ rfl]; exact b2.2 j hj⟩ p5 (Sm.tr (by decide) b4 p4) (fun hlt => ?_) (fun k' hk' hb u hu => ?_)
            · by_cases e : v ≤ w + 1
              · rw [Nat.min_eq_left e] at hlt ⊢; exact b5 hlt
              · rw [Nat.min_eq_right (by omega)] at hlt ⊢
                obtain ⟨s, s1, s2⟩ := hWs _ (getD_m hk)
                refine Or.inr ⟨s, s1, ?_⟩
                rw [s2, z1]
                exact lsT_cv p2 (by omega)
            · by_cases e : k' = k
              · rw [e, z1] at hu
                have := lsT_ge p2 hu
                omega
              · have := b6 k' (by omega) hb u hu
                omega
      refine lp _ _ (fun v I' h1 h2 h3 h4 h5 => ?_) bgf 0 (Nat.zero_le _) (by unfold bgf; omega) 99 I (by omega) hw hf Sm.rf (fun h => absurd h (by omega)) (fun k' h => absurd h (Nat.not_lt_zero _))
      have := fin v I' h1 h2 h3 h4 h5
      exact this
    · rcases hf x hx with h | ⟨v, h1, h2⟩
      · exact absurd h c
      · exact Ok.mk ⟨v, h1, h2, rfl, Sm.rf, hf⟩

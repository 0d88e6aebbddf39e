/-! LAYER 2: proof: what is near -/
def nrP (cv : Nat → Int32) (k i j : Nat) : Prop := ∃ s, s < k ∧ bi (cv s) i = true ∧ bi (cv s) j = true
def nrQ (cv : Nat → Int32) (m : Nat) (f : Nat → Nat) (I : HI) : Prop := ∀ i, i < m → ∀ j, (bi (I x_parting_near i) j = true ↔ nrP cv (f i) i j)
theorem nrP_s {cv : Nat → Int32} {k i j : Nat} : nrP cv (k + 1) i j ↔ nrP cv k i j ∨ (bi (cv k) i = true ∧ bi (cv k) j = true) := by
  constructor
  · rintro ⟨s, h1, h2, h3⟩
    by_cases c : s = k
    · rw [c] at h2 h3; exact Or.inr ⟨h2, h3⟩
    · exact Or.inl ⟨s, by omega, h2, h3⟩
  · rintro (⟨s, h1, h2, h3⟩ | ⟨h2, h3⟩)
    · exact ⟨s, by omega, h2, h3⟩
    · exact ⟨k, by omega, h2, h3⟩
theorem X4_near {cv : Nat → Int32} {N m : Nat} (hN : N ≤ 2187) (hm : m ≤ 12) (I : HI) (J : HJ) (hsz : I x_table f_Table_size = nI N) (hlm : I x_parting f_Parting_lamps = nI m) (hcv : ∀ s, s < N → I x_parting_cover s = cv s) : Ok (F_X4_findNear I J) (fun q => q.2.2 = J ∧ nrQ cv m (fun _ => N) q.2.1 ∧ Sm [(x_parting_near, none)] I q.2.1) := by
  unfold F_X4_findNear
  refine Ok.call (fl_x_parting_near 0 I J) (fun r I2 J2 _ hP => ?_)
  obtain ⟨f1, f2, f3⟩ := hP
  simp only at f1 f2 f3
  subst f1
  have l1 : ∀ (s : Nat), s < N → ∀ (kx : HI → Option (Unit × HI × HJ)) (Q : Unit × HI × HJ → Prop), (∀ I', Sm [(x_parting_near, none)] I I' → nrQ cv m (fun _ => s + 1) I' → Ok (kx I') Q) → ∀ K i, i ≤ m → m - i < K → ∀ I', Sm [(x_parting_near, none)] I I' → nrQ cv m (fun i' => if i' < i then s + 1 else s) I' → Ok (F_X4_findNear_L23 (nI s) J2 kx K (nI i) I') Q := by
    intro s hs kx Q hx
    refine up ?_ ?_
    · intro K I' a1 a2
      rw [F_X4_findNear_L23]
      refine Ok.t (by rw [a1 _ _ rfl, hlm, n_le] <;> omega) (hx I' a1 (fun i hi j => ?_))
      have := a2 i hi j
      simp only [if_pos hi] at this
      exact this
    · intro K i hi ih I' a1 a2
      rw [F_X4_findNear_L23]
      refine Ok.f (by rw [a1 _ _ rfl, hlm, n_le] <;> omega) (Ok.bxe (by omega) (by omega) ?_)
      have hc : I' x_parting_cover s = cv s := by rw [a1 _ _ rfl]; exact hcv s hs
      rw [n_cl (by omega), hc]
      refine Ok.ite (fun c => hx I' a1 (fun i' hi' j => ?_)) (fun c => ?_)
      · have hz : cv s = nI 0 := c
        have := a2 i' hi' j
        rw [this]
        simp only
        split
        · exact Iff.rfl
        · rw [nrP_s]
          constructor
          · exact Or.inl
          · rintro (h | ⟨h, _⟩)
            · exact h
            · rw [hz, bi_z] at h; cases h
      · refine Ok.bxe (by omega) (by omega) (Ok.bxe (by omega) (by omega) (Ok.lbv ?_))
        rw [n_cl (by omega)]
        have body : ∀ y, (∀ j, bi y j = (bi (cv s) i && bi (cv s) j)) → Ok (bx (nI i) 12 <| lb (ui I' x_parting_near (Int32.toNatClampNeg (nI i)) (I' x_parting_near i ||| y)) fun I8 => F_X4_findNear_L23 (nI s) J2 kx K (nI i + 1) I8) Q := by
          intro y hy
          refine Ok.bxe (by omega) (by omega) (Ok.lbv ?_)
          rw [n_cl (by omega), nI_1]
          refine ih _ (Sm.mi rfl a1) (fun i' hi' j => ?_)
          rw [ui_s]
          have := a2 i' hi' j
          by_cases ci : i' = i
          · subst ci
            rw [if_pos rfl, bi_or, hy, Bool.or_eq_true, this]
            simp only [Nat.lt_irrefl, if_false, Nat.lt_succ_self, if_true]
            rw [nrP_s, Bool.and_eq_true]
          · rw [if_neg ci, this]
            simp only
            by_cases cl : i' < i
            · rw [if_pos cl, if_pos (by omega)]
            · rw [if_neg cl, if_neg (by omega)]
        rw [show (1 : Int32) = nI 1 from rfl, t_iu (by omega)]
        cases hb : bi (cv s) i with
        | false => exact Ok.t (by rfl) (body 0 (fun j => by rw [hb]; exact (bi_z j).trans rfl))
        | true =>
          refine Ok.f (by decide) (Ok.bxe (by omega) (by omega) ?_)
          exact body (cv s) (fun j => by rw [hb]; rfl)
  have l2 : ∀ K s, s ≤ N → N - s < K → ∀ I', Sm [(x_parting_near, none)] I I' → nrQ cv m (fun _ => s) I' → Ok (F_X4_findNear_L10 J2 K (nI s) I') (fun q => q.2.2 = J2 ∧ nrQ cv m (fun _ => N) q.2.1 ∧ Sm [(x_parting_near, none)] I q.2.1) := by
    refine up ?_ ?_
    · intro K I' a1 a2
      rw [F_X4_findNear_L10]
      exact Ok.t (by rw [a1 _ _ rfl, hsz, n_le] <;> omega) (Ok.mk ⟨rfl, a2, a1⟩)
    · intro K s hs ih I' a1 a2
      rw [F_X4_findNear_L10]
      refine Ok.f (by rw [a1 _ _ rfl, hsz, n_le] <;> omega) ?_
      rw [nI_1]
      exact l1 s hs _ _ (fun I3 b1 b2 => ih I3 b1 b2) bgf 0 (Nat.zero_le _) (by unfold bgf; omega) I' a1 (fun i hi j => by simpa using a2 i hi j)
  refine l2 bgf 0 (Nat.zero_le _) (by unfold bgf; omega) I2 f3 (fun i hi j => ?_)
  rw [f2 i (by omega)]
  constructor
  · intro h; have := bi_z j; exact absurd (h.symm.trans this) (by decide)
  · rintro ⟨s, h, _⟩; exact absurd h (Nat.not_lt_zero _)
/-- a set of members that no cover holds two of -/
def apS (cv : Nat → Int32) (N : Nat) (x : Int32) : Prop := ∀ i j, i ≠ j → bi x i = true → bi x j = true → ¬ nrP cv N i j
theorem X4_isApart {cv : Nat → Int32} {N m : Nat} (hm : m ≤ 12) {I : HI} {J : HJ} (hlm : I x_parting f_Parting_lamps = nI m) (hn : nrQ cv m (fun _ => N) I) {x : Int32} (hx : ∀ i, m ≤ i → bi x i = false) : Ok (F_X4_isApart x I J) (fun r => ∃ b, r = b1 b ∧ (b = true ↔ apS cv N x)) := by
  unfold F_X4_isApart
  have hl : ∀ K i, i ≤ m → m - i < K → (∀ i' j, i' < i → i' ≠ j → bi x i' = true → bi x j = true → ¬ nrP cv N i' j) → Ok (F_X4_isApart_L2 x I J K (nI i)) (fun r => ∃ b, r = b1 b ∧ (b = true ↔ apS cv N x)) := by
    refine up ?_ ?_
    · intro K h
      rw [F_X4_isApart_L2]
      refine Ok.t (by rw [hlm, n_le] <;> omega) (Ok.mk ⟨true, rfl, fun _ i j hij h1 h2 => ?_, fun _ => rfl⟩)
      by_cases c : i < m
      · exact h i j c hij h1 h2
      · rw [hx i (by omega)] at h1; cases h1
    · intro K i hi ih h
      rw [F_X4_isApart_L2]
      refine Ok.f (by rw [hlm, n_le] <;> omega) (Ok.lbv ?_)
      rw [nI_1, show (1 : Int32) = nI 1 from rfl, t_iu (by omega)]
      cases hb : bi x i with
      | false =>
        refine Ok.t (by rfl) (ih (fun i' j h1 => ?_))
        by_cases c : i' = i
        · intro _ h2; rw [c, hb] at h2; cases h2
        · exact h i' j (by omega)
      | true =>
        refine Ok.f (by decide) (Ok.bxe (by omega) (by omega) ?_)
        rw [n_cl (by omega)]
        have key : ∀ j, bi (((I x_parting_near i) &&& x) &&& ((oshl (nI 1) (nI i)) ^^^ (-1 : Int32))) j = true ↔ (nrP cv N i j ∧ bi x j = true ∧ j ≠ i ∧ j < 32) := by
          intro j
          by_cases c : j < 32
          · rw [bi_and, bi_and, bi_not c, show bi (oshl (nI 1) (nI i)) j = decide (j = i) from bi_one (by omega), Bool.and_eq_true, Bool.and_eq_true, hn i hi j]
            simp [c, and_assoc]
          · rw [bi_big (by omega)]; simp [c]
        refine Ok.ite (fun c => ih (fun i' j h1 h2 h3 h4 => ?_)) (fun c => Ok.mk ⟨false, rfl, (fun h => by cases h), fun hap => ?_⟩)
        · by_cases ci : i' = i
          · rw [ci]
            intro hnr
            have hj : j < 32 := by
              by_cases cj : j < 32
              · exact cj
              · rw [bi_big (by omega)] at h4; cases h4
            have := (key j).mpr ⟨hnr, h4, fun e => h2 (ci.trans e.symm), hj⟩
            have c' : ((I x_parting_near i) &&& x) &&& ((oshl (nI 1) (nI i)) ^^^ (-1 : Int32)) = nI 0 := c
            rw [c', bi_z] at this; cases this
          · exact h i' j (by omega) h2 h3 h4
        · exfalso
          apply c
          apply bi_ext
          intro j hj
          cases hk : bi (((I x_parting_near i) &&& x) &&& ((oshl (nI 1) (nI i)) ^^^ (-1 : Int32))) j with
          | false => exact hk.trans (bi_z j).symm
          | true =>
            obtain ⟨q1, q2, q3, _⟩ := (key j).mp hk
            exact absurd q1 (hap i j (fun e => q3 e.symm) hb q2)
  exact hl bgf 0 (Nat.zero_le _) (by unfold bgf; omega) (fun i' j h => by omega)

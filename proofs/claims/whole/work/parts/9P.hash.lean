/-! LAYER 2: sets, the slots -/
theorem i_low {x : Int32} (h : ∀ k, 12 ≤ k → k < 32 → bi x k = false) : ∃ n, n < 4096 ∧ x = nI n := by
  have hb : x.toBitVec.toNat < 2 ^ 12 := by
    apply Nat.lt_pow_two_of_testBit
    intro i hi
    by_cases c : i < 32
    · rw [BitVec.testBit_toNat]; exact h i hi c
    · exact Nat.testBit_lt_two_pow (Nat.lt_of_lt_of_le x.toBitVec.isLt (Nat.pow_le_pow_right (by omega) (by omega)))
  refine ⟨x.toBitVec.toNat, hb, ?_⟩
  apply Int32.toBitVec_inj.mp
  show x.toBitVec = BitVec.ofNat 32 x.toBitVec.toNat
  rw [BitVec.ofNat_toNat, BitVec.setWidth_eq]
theorem hash_ok (v : Int64) : ∃ n, n < 4096 ∧ Int64.toInt32 (olushr v (52 : Int32)) = nI n := by
  apply i_low
  intro k h1 h2
  rw [bi_lo _ h2, show (52 : Int32) = Int32.ofNat 52 from rfl, bt_ush (by omega)]
  exact bt_big (by omega)
theorem and_4095 {a : Nat} (h : a < 8192) : nI a &&& ((4096 : Int32) - (1 : Int32)) = nI (a % 4096) := by
  rw [show ((4096 : Int32) - (1 : Int32)) = nI 4095 from rfl]
  apply Int32.toBitVec_inj.mp
  show (BitVec.ofNat 32 a) &&& (BitVec.ofNat 32 4095) = BitVec.ofNat 32 (a % 4096)
  apply BitVec.eq_of_toNat_eq
  rw [BitVec.toNat_and, BitVec.toNat_ofNat, BitVec.toNat_ofNat, BitVec.toNat_ofNat, Nat.mod_eq_of_lt (by omega : a < 2 ^ 32), Nat.mod_eq_of_lt (by omega : 4095 < 2 ^ 32), Nat.mod_eq_of_lt (by omega : a % 4096 < 2 ^ 32)]
  exact Nat.and_two_pow_sub_one_eq_mod a 12
def hsN (v : Int64) : Nat := (Int64.toInt32 (olushr (v * (-7046029254386353131 : Int64)) (52 : Int32))).toInt.toNat
theorem hsN_ok (v : Int64) : hsN v < 4096 ∧ Int64.toInt32 (olushr (v * (-7046029254386353131 : Int64)) (52 : Int32)) = nI (hsN v) := by
  obtain ⟨n, h1, h2⟩ := hash_ok (v * (-7046029254386353131 : Int64))
  have : hsN v = n := by unfold hsN; rw [h2, n_int (by omega)]; omega
  rw [this]; exact ⟨h1, h2⟩
/-- the slots hold the entered settings e -/
def slQ (g : Nat → Int64) (N : Nat) (e : Nat → Bool) (I : HI) : Prop := ∃ σ : Nat → Nat, (∀ k, k < 4096 → I x_table_slots k = nI (σ k)) ∧ (∀ k, k < 4096 → σ k = 0 ∨ (σ k - 1 < N ∧ e (σ k - 1) = true)) ∧ (∀ s, s < N → e s = true → ∃ d, d < 4096 ∧ σ ((hsN (g s) + d) % 4096) = s + 1 ∧ ∀ d', d' < d → σ ((hsN (g s) + d') % 4096) ≠ 0) ∧ pcP 4096 (fun k => !decide (σ k = 0)) ≤ pcP N e
theorem pcP_one {n s : Nat} {p q : Nat → Bool} (hs : s < n) (h1 : p s = false) (h2 : q s = true) (h3 : ∀ k, k < n → k ≠ s → q k = p k) : pcP n q = pcP n p + 1 := by
  rw [← pcP_del hs h2]
  congr 1
  apply pcP_c
  intro k hk
  by_cases c : k = s
  · rw [c, h1]; simp
  · rw [h3 k hk c]; simp [c]
theorem pcP_all {n : Nat} {p : Nat → Bool} (h : ∀ k, k < n → p k = true) : pcP n p = n := by
  induction n with
  | zero => rfl
  | succ n ih => rw [pcP_s, ih (fun k hk => h k (by omega)), h n (by omega)]; rfl
theorem X8_enter {g : Nat → Int64} {N : Nat} (hN : N ≤ 2187) {e : Nat → Bool} {s : Nat} (hs : s < N) {I : HI} {J : HJ} (hg : ∀ s, s < N → J x_table_glow s = g s) (h : slQ g N e I) : Ok (F_X8_enter (nI s) I J) (fun q => q.2.2 = J ∧ ((q.1 = 0 ∧ q.2.1 = I ∧ ∃ s', s' < N ∧ e s' = true ∧ g s' = g s) ∨ (q.1 = 1 ∧ (∀ s', s' < N → e s' = true → g s' ≠ g s) ∧ slQ g N (fun k => e k || decide (k = s)) q.2.1))) := by
  obtain ⟨σ, h1, h2, h3, h4⟩ := h
  obtain ⟨hh1, hh2⟩ := hsN_ok (g s)
  unfold F_X8_enter
  refine Ok.bxe (by omega) (by omega) (Ok.lbv ?_)
  rw [n_cl (by omega), hg s hs, hh2]
  have hl : ∀ (kx : Int32 → Option (Int32 × HI × HJ)) (Q : Int32 × HI × HJ → Prop), ((∃ s', s' < N ∧ e s' = true ∧ g s' = g s) → Q (0, I, J)) → (∀ d, d < 4096 → σ ((hsN (g s) + d) % 4096) = 0 → (∀ d', d' < d → σ ((hsN (g s) + d') % 4096) ≠ 0 ∧ g (σ ((hsN (g s) + d') % 4096) - 1) ≠ g s) → Ok (kx (nI ((hsN (g s) + d) % 4096))) Q) → ∀ K d, d ≤ 4096 → 4096 - d < K → (∀ d', d' < d → σ ((hsN (g s) + d') % 4096) ≠ 0 ∧ g (σ ((hsN (g s) + d') % 4096) - 1) ≠ g s) → Ok (F_X8_enter_L17 (nI s) (nI (hsN (g s))) I J kx K (nI d)) Q := by
    intro kx Q hyes hno
    refine up ?_ ?_
    · intro K hd
      have hall : pcP 4096 (fun k => !decide (σ k = 0)) = 4096 := pcP_all (fun k hk => by
        have := (hd ((k + 4096 - hsN (g s)) % 4096) (Nat.mod_lt _ (by omega))).1
        have he : (hsN (g s) + (k + 4096 - hsN (g s)) % 4096) % 4096 = k := by omega
        rw [he] at this
        simp [this])
      have := pcP_le N e
      omega
    · intro K d hd ih hbef
      rw [F_X8_enter_L17]
      have c : ¬ (4096 : Int32) ≤ nI d := (by rw [n_le (by omega) (by omega)]; omega : ¬ nI 4096 ≤ nI d)
      have hp : (hsN (g s) + d) % 4096 < 4096 := Nat.mod_lt _ (by omega)
      refine Ok.f c (Ok.lbv ?_)
      rw [nI_add, and_4095 (by omega)]
      refine Ok.bxe (by omega) (by omega) (Ok.lbv ?_)
      rw [n_cl (by omega), h1 _ hp]
      rcases h2 _ hp with hz | ⟨hz1, hz2⟩
      · rw [hz]
        exact Ok.f (show ¬ 0 ≤ nI 0 - 1 by decide) (hno d hd hz hbef)
      · by_cases hz : σ ((hsN (g s) + d) % 4096) = 0
        · rw [hz]
          exact Ok.f (show ¬ 0 ≤ nI 0 - 1 by decide) (hno d hd hz hbef)
        · have hm : nI (σ ((hsN (g s) + d) % 4096)) - 1 = nI (σ ((hsN (g s) + d) % 4096) - 1) := by
            have e1 := nI_1 (a := σ ((hsN (g s) + d) % 4096) - 1)
            rw [show σ ((hsN (g s) + d) % 4096) - 1 + 1 = σ ((hsN (g s) + d) % 4096) by omega] at e1
            rw [← e1, Int32.add_sub_cancel]
          rw [hm]
          refine Ok.t (show 0 ≤ nI (σ ((hsN (g s) + d) % 4096) - 1) from (by rw [n_le (by omega) (by omega)]; omega : nI 0 ≤ nI (σ ((hsN (g s) + d) % 4096) - 1))) (Ok.bxe (by omega) (by omega) (Ok.bxe (by omega) (by omega) ?_))
          rw [n_cl (by omega), n_cl (by omega), hg _ hz1, hg s hs, nI_1]
          by_cases he : g (σ ((hsN (g s) + d) % 4096) - 1) = g s
          · exact Ok.t (lc0.mpr he) (Ok.mk (hyes ⟨_, hz1, hz2, he⟩))
          · refine Ok.f (fun h0 => he (lc0.mp h0)) (ih (fun d' hd' => ?_))
            by_cases cd : d' = d
            · rw [cd]; exact ⟨hz, he⟩
            · exact hbef d' (by omega)
  refine hl _ _ (fun hex => ⟨rfl, Or.inl ⟨rfl, rfl, hex⟩⟩) (fun d hd hz hbef => ?_) bgf 0 (Nat.zero_le _) (by unfold bgf; omega) (fun d' hd' => by omega)
  have hp : (hsN (g s) + d) % 4096 < 4096 := Nat.mod_lt _ (by omega)
  have hnone : ∀ s', s' < N → e s' = true → g s' ≠ g s := by
    intro s' hs' he' hgs
    obtain ⟨d2, k1, k2, k3⟩ := h3 s' hs' he'
    rw [hgs] at k2 k3
    by_cases c : d2 < d
    · obtain ⟨_, q2⟩ := hbef d2 c
      rw [k2] at q2
      exact q2 (by rw [Nat.add_sub_cancel]; exact hgs)
    · by_cases c2 : d2 = d
      · rw [c2, hz] at k2; omega
      · exact k3 d (by omega) hz
  have hes : e s = false := by
    cases he : e s with
    | false => rfl
    | true => exact absurd rfl (hnone s hs he)
  refine Ok.bxe (by omega) (by omega) (Ok.lbv (Ok.mk ⟨rfl, Or.inr ⟨rfl, hnone, fun k => if k = (hsN (g s) + d) % 4096 then s + 1 else σ k, fun k hk => ?_, fun k hk => ?_, fun s' hs' he' => ?_, ?_⟩⟩))
  · dsimp only
    rw [n_cl (by omega), ui_s, nI_1]
    by_cases c : k = (hsN (g s) + d) % 4096
    · rw [if_pos c, if_pos c]
    · rw [if_neg c, if_neg c]; exact h1 k hk
  · dsimp only
    by_cases c : k = (hsN (g s) + d) % 4096
    · rw [if_pos c]; right; rw [Nat.add_sub_cancel]; exact ⟨hs, by simp⟩
    · rw [if_neg c]
      rcases h2 k hk with q | ⟨q1, q2⟩
      · exact Or.inl q
      · exact Or.inr ⟨q1, by rw [q2]; rfl⟩
  · dsimp only at he' ⊢
    by_cases c : s' = s
    · subst c
      refine ⟨d, hd, if_pos rfl, fun d' hd' => ?_⟩
      by_cases c2 : (hsN (g s') + d') % 4096 = (hsN (g s') + d) % 4096
      · rw [if_pos c2]; omega
      · rw [if_neg c2]; exact (hbef d' hd').1
    · have he2 : e s' = true := by simpa [c] using he'
      obtain ⟨d2, k1, k2, k3⟩ := h3 s' hs' he2
      refine ⟨d2, k1, ?_, fun d' hd' => ?_⟩
      · rw [if_neg]; · exact k2
        intro hh; rw [hh, hz] at k2; omega
      · by_cases c2 : (hsN (g s') + d') % 4096 = (hsN (g s) + d) % 4096
        · rw [if_pos c2]; omega
        · rw [if_neg c2]; exact k3 d' hd'
  · have e1 : pcP N (fun k => e k || decide (k = s)) = pcP N e + 1 := pcP_one hs hes (by simp) (fun k hk c => by simp [c])
    have e2 : pcP 4096 (fun k => !decide ((if k = (hsN (g s) + d) % 4096 then s + 1 else σ k) = 0)) = pcP 4096 (fun k => !decide (σ k = 0)) + 1 := pcP_one hp (by simp [hz]) (by simp) (fun k hk c => by simp [c])
    rw [e1]
    exact Nat.le_trans (Nat.le_of_eq e2) (by omega)

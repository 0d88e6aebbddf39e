/-! LAYER 2: the lowest bit, how many bits -/
theorem low1 (n : Nat) (h : n ≠ 0) : ∃ k m, n = 2 ^ k * (2 * m + 1) := by
  induction n using Nat.strongRecOn with
  | _ n ih =>
    by_cases e : n % 2 = 1
    · exact ⟨0, n / 2, by omega⟩
    · obtain ⟨k, m, g⟩ := ih (n / 2) (by omega) (by omega)
      refine ⟨k + 1, m, ?_⟩
      have : n = 2 * (n / 2) := by omega
      rw [this, g, Nat.pow_succ, Nat.mul_comm (2 ^ k) 2, Nat.mul_assoc]
theorem low_tb (k m j : Nat) : (2 ^ k * (2 * m + 1)).testBit j = if j < k then false else (2 * m + 1).testBit (j - k) := by
  have h := Nat.testBit_two_pow_mul_add (2 * m + 1) (b := 0) (i := k) (Nat.two_pow_pos k) j
  rw [Nat.add_zero] at h
  rw [h]; simp
theorem low_tb1 (k m j : Nat) : (2 ^ k * (2 * m + 1) - 1).testBit j = if j < k then true else (2 * m).testBit (j - k) := by
  have hp := Nat.two_pow_pos k
  have e : 2 ^ k * (2 * m + 1) - 1 = 2 ^ k * (2 * m) + (2 ^ k - 1) := by
    rw [Nat.mul_add, Nat.mul_one]; omega
  rw [e, Nat.testBit_two_pow_mul_add (2 * m) (by omega) j]
  by_cases h : j < k
  · rw [if_pos h, if_pos h, Nat.testBit_two_pow_sub_one]; simp [h]
  · rw [if_neg h, if_neg h]
theorem odd_tb (m i : Nat) : (2 * m + 1).testBit i = if i = 0 then true else (2 * m).testBit i := by
  cases i with
  | zero => simp
  | succ i => rw [Nat.testBit_succ, if_neg (by omega), Nat.testBit_succ]; congr 1; omega
theorem low64 {x : Int64} (h : x ≠ 0) : ∃ k, k < 64 ∧ bt x k = true ∧ (∀ j, j < k → bt x j = false) ∧ ∀ j, bt (x - 1) j = if j < k then true else if j = k then false else bt x j := by
  have hn : x.toBitVec.toNat ≠ 0 := by
    intro e
    apply h
    apply Int64.toBitVec_inj.mp
    exact BitVec.eq_of_toNat_eq e
  obtain ⟨k, m, g⟩ := low1 _ hn
  have hx : ∀ j, bt x j = (2 ^ k * (2 * m + 1)).testBit j := fun j => by
    unfold bt; rw [← g]; exact (BitVec.testBit_toNat _).symm
  have hk : bt x k = true := by
    rw [hx, low_tb, if_neg (by omega), Nat.sub_self, odd_tb, if_pos rfl]
  have hk64 : k < 64 := by
    by_cases c : k < 64
    · exact c
    · rw [bt_big (by omega)] at hk; cases hk
  have hs : (x - 1).toBitVec.toNat = x.toBitVec.toNat - 1 := by
    rw [Int64.toBitVec_sub, BitVec.toNat_sub_of_le]
    · rfl
    · rw [BitVec.le_def]
      show 1 ≤ x.toBitVec.toNat
      omega
  refine ⟨k, hk64, hk, fun j hj => by rw [hx, low_tb, if_pos hj], fun j => ?_⟩
  have e1 : bt (x - 1) j = (2 ^ k * (2 * m + 1) - 1).testBit j := by
    unfold bt; rw [← g, ← hs]; exact (BitVec.testBit_toNat _).symm
  rw [e1, low_tb1, hx, low_tb]
  by_cases c : j < k
  · rw [if_pos c, if_pos c]
  · rw [if_neg c, if_neg c, if_neg c, odd_tb]
    by_cases d : j = k
    · subst d; simp
    · rw [if_neg d, if_neg (by omega)]
theorem low32 {x : Int32} (h : x ≠ 0) : ∃ k, k < 32 ∧ bi x k = true ∧ (∀ j, j < k → bi x j = false) ∧ ∀ j, bi (x - 1) j = if j < k then true else if j = k then false else bi x j := by
  have hn : x.toBitVec.toNat ≠ 0 := by
    intro e
    apply h
    apply Int32.toBitVec_inj.mp
    exact BitVec.eq_of_toNat_eq e
  obtain ⟨k, m, g⟩ := low1 _ hn
  have hx : ∀ j, bi x j = (2 ^ k * (2 * m + 1)).testBit j := fun j => by
    unfold bi; rw [← g]; exact (BitVec.testBit_toNat _).symm
  have hk : bi x k = true := by
    rw [hx, low_tb, if_neg (by omega), Nat.sub_self, odd_tb, if_pos rfl]
  have hk64 : k < 32 := by
    by_cases c : k < 32
    · exact c
    · rw [bi_big (by omega)] at hk; cases hk
  have hs : (x - 1).toBitVec.toNat = x.toBitVec.toNat - 1 := by
    rw [Int32.toBitVec_sub, BitVec.toNat_sub_of_le]
    · rfl
    · rw [BitVec.le_def]
      show 1 ≤ x.toBitVec.toNat
      omega
  refine ⟨k, hk64, hk, fun j hj => by rw [hx, low_tb, if_pos hj], fun j => ?_⟩
  have e1 : bi (x - 1) j = (2 ^ k * (2 * m + 1) - 1).testBit j := by
    unfold bi; rw [← g, ← hs]; exact (BitVec.testBit_toNat _).symm
  rw [e1, low_tb1, hx, low_tb]
  by_cases c : j < k
  · rw [if_pos c, if_pos c]
  · rw [if_neg c, if_neg c, if_neg c, odd_tb]
    by_cases d : j = k
    · subst d; simp
    · rw [if_neg d, if_neg (by omega)]
/-- the lowest bit taken away -/
theorem low_and {x : Int64} {k : Nat} (h1 : bt x k = true) (h2 : ∀ j, j < k → bt x j = false) (j : Nat) : bt (x &&& (x - 1)) j = (bt x j && !decide (j = k)) := by
  have hx : x ≠ 0 := by intro e; subst e; rw [bt_0] at h1; cases h1
  obtain ⟨k', g0, g1, g2, g3⟩ := low64 hx
  have e : k' = k := by
    rcases Nat.lt_trichotomy k' k with c | c | c
    · rw [h2 _ c] at g1; cases g1
    · exact c
    · rw [g2 _ c] at h1; cases h1
  subst e
  rw [bt_and, g3]
  by_cases c : j < k'
  · rw [if_pos c, g2 _ c]; rfl
  · rw [if_neg c]
    by_cases d : j = k'
    · subst d; simp
    · simp [d]
theorem ntz_m (k : Fin 32) (y : Int32) (h : (y ^^^ (-1 : Int32)) &&& (y - 1) = Int32.ofNat (2 ^ k.val - 1)) : F_J6_numberOfTrailingZeros_0f7a4 y = some (Int32.ofNat k) := by
  unfold F_J6_numberOfTrailingZeros_0f7a4
  simp only [lb]
  rw [h]
  clear h
  revert k
  decide +kernel
theorem bi_msk {k j : Nat} (hk : k < 32) : bi (Int32.ofNat (2 ^ k - 1)) j = decide (j < k) := by
  unfold bi
  have e : (Int32.ofNat (2 ^ k - 1)).toBitVec = BitVec.ofNat 32 (2 ^ k - 1) := rfl
  rw [e, BitVec.getLsbD_ofNat, Nat.testBit_two_pow_sub_one]
  by_cases c : j < k
  · have : j < 32 := by omega
    simp [c, this]
  · simp [c]
theorem ntz32 {x : Int32} (h : x ≠ 0) : ∃ k, k < 32 ∧ F_J6_numberOfTrailingZeros_0f7a4 x = some (Int32.ofNat k) ∧ bi x k = true ∧ ∀ j, j < k → bi x j = false := by
  obtain ⟨k, g0, g1, g2, g3⟩ := low32 h
  refine ⟨k, g0, ?_, g1, g2⟩
  apply ntz_m ⟨k, g0⟩ x
  apply bi_ext
  intro j hj
  rw [bi_and, bi_not hj, g3, bi_msk g0]
  by_cases c : j < k
  · simp [c, g2 _ c]
  · by_cases d : j = k
    · subst d; simp
    · simp [c, d]
theorem bi_lo (x : Int64) {k : Nat} (h : k < 32) : bi (Int64.toInt32 x) k = bt x k := by
  unfold bi bt
  rw [Int64.toBitVec_toInt32, BitVec.getLsbD_signExtend]
  have : k < 64 := by omega
  simp [h, this]
theorem ntz64 {x : Int64} (h : x ≠ 0) : ∃ k, k < 64 ∧ F_J13_numberOfTrailingZeros_95d88 x = some (Int32.ofNat k) ∧ bt x k = true ∧ ∀ j, j < k → bt x j = false := by
  unfold F_J13_numberOfTrailingZeros_95d88
  simp only [lb]
  by_cases c : Int64.toInt32 x = 0
  · rw [if_pos c]
    have hz : ∀ j, j < 32 → bt x j = false := fun j hj => by rw [← bi_lo x hj, c, bi_0]
    have hh : ∀ j, j < 32 → bi (Int64.toInt32 (olushr x (32 : Int32))) j = bt x (32 + j) := fun j hj => by
      rw [bi_lo _ hj]; exact bt_ush (j := 32) (by decide)
    have hn : Int64.toInt32 (olushr x (32 : Int32)) ≠ 0 := by
      intro e
      apply h
      apply bt_ext
      intro k hk
      rw [bt_0]
      by_cases d : k < 32
      · exact hz k d
      · have := hh (k - 32) (by omega)
        rw [e, bi_0, show 32 + (k - 32) = k by omega] at this
        exact this.symm
    obtain ⟨k, g0, g1, g2, g3⟩ := ntz32 hn
    refine ⟨32 + k, by omega, ?_, by rw [← hh k g0]; exact g2, fun j hj => ?_⟩
    · rw [g1]
      show some ((32 : Int32) + Int32.ofNat k) = _
      exact congrArg some (nI_add 32 k)
    · by_cases d : j < 32
      · exact hz j d
      · have := g3 (j - 32) (by omega)
        rw [hh _ (by omega), show 32 + (j - 32) = j by omega] at this
        exact this
  · rw [if_neg c]
    obtain ⟨k, g0, g1, g2, g3⟩ := ntz32 c
    refine ⟨k, by omega, ?_, by rw [← bi_lo x g0]; exact g2, fun j hj => by rw [← bi_lo x (by omega)]; exact g3 j hj⟩
    rw [g1]; rfl

-- how many bits
def pcP (n : Nat) (p : Nat → Bool) : Nat := (List.range n).countP p
def pc (x : Int64) : Nat := pcP 64 (bt x)
def pci (x : Int32) : Nat := pcP 32 (bi x)
theorem pcP_s (n : Nat) (p : Nat → Bool) : pcP (n + 1) p = pcP n p + (if p n then 1 else 0) := by
  unfold pcP
  rw [List.range_succ, List.countP_append, List.countP_singleton]
theorem pcP_c {n : Nat} {p q : Nat → Bool} (h : ∀ k, k < n → p k = q k) : pcP n p = pcP n q := by
  induction n with
  | zero => rfl
  | succ n ih => rw [pcP_s, pcP_s, ih (fun k hk => h k (by omega)), h n (by omega)]
theorem pcP_le (n : Nat) (p : Nat → Bool) : pcP n p ≤ n := by
  induction n with
  | zero => exact Nat.le_refl 0
  | succ n ih => rw [pcP_s]; split <;> omega
theorem pcP_add (a b : Nat) (p : Nat → Bool) : pcP (a + b) p = pcP a p + pcP b (fun k => p (a + k)) := by
  induction b with
  | zero => simp [pcP]
  | succ b ih => rw [← Nat.add_assoc, pcP_s, pcP_s, ih]; omega
theorem pcP_0 {n : Nat} {p : Nat → Bool} (h : ∀ k, k < n → p k = false) : pcP n p = 0 := by
  induction n with
  | zero => rfl
  | succ n ih => rw [pcP_s, ih (fun k hk => h k (by omega)), h n (by omega)]; rfl
theorem pcP_z {n : Nat} {p : Nat → Bool} (h : pcP n p = 0) : ∀ k, k < n → p k = false := by
  induction n with
  | zero => intro k hk; omega
  | succ n ih =>
    rw [pcP_s] at h
    intro k hk
    by_cases c : k = n
    · subst c
      cases e : p k with
      | false => rfl
      | true => rw [e] at h; simp at h
    · exact ih (by omega) k (by omega)
theorem pcP_del {n k : Nat} {p : Nat → Bool} (hk : k < n) (h : p k = true) : pcP n (fun j => p j && !decide (j = k)) + 1 = pcP n p := by
  induction n with
  | zero => omega
  | succ n ih =>
    rw [pcP_s, pcP_s]
    by_cases c : k = n
    · subst c
      have hc : pcP k (fun j => p j && !decide (j = k)) = pcP k p := by
        apply pcP_c
        intro j hj
        have : ¬ j = k := by omega
        simp [this]
      rw [h, hc]
      simp
    · have := ih (by omega)
      have d : ¬ n = k := by omega
      simp only [d, decide_false, Bool.not_false, Bool.and_true]
      omega
def mk8 (c : Nat) : Nat → Nat
  | 0 => 0
  | j+1 => 256 * mk8 c j + c
def s1 (j n : Nat) : Nat := n - ((n / 2) &&& mk8 85 j)
def s2 (j n : Nat) : Nat := (n &&& mk8 51 j) + ((n / 4) &&& mk8 51 j)
def s3 (j n : Nat) : Nat := (n + n / 16) &&& mk8 15 j
theorem and_sp {a b c d : Nat} (hb : b < 256) (hd : d < 256) : (256 * a + b) &&& (256 * c + d) = 256 * (a &&& c) + (b &&& d) := by
  apply Nat.eq_of_testBit_eq
  intro i
  have hbd : b &&& d < 2 ^ 8 := Nat.lt_of_le_of_lt Nat.and_le_left hb
  rw [Nat.testBit_and, show (256 : Nat) = 2 ^ 8 from rfl, Nat.testBit_two_pow_mul_add a hb, Nat.testBit_two_pow_mul_add c hd, Nat.testBit_two_pow_mul_add _ hbd, Nat.testBit_and, Nat.testBit_and]
  split <;> rfl
theorem s1_b (e : Fin 2) (b : Fin 256) : (128 * e.val + b.val / 2) &&& 85 = (b.val / 2) &&& 85 := by
  revert e b; decide +kernel
theorem s2_b (e : Fin 4) (b : Fin 256) : (64 * e.val + b.val / 4) &&& 51 = (b.val / 4) &&& 51 := by
  revert e b; decide +kernel
theorem s3_b (e : Fin 5) (b : Fin 69) : (b.val + 16 * e.val + b.val / 16) &&& 15 = (b.val + b.val / 16) &&& 15 := by
  revert e b; decide +kernel
def g1 (b : Nat) : Nat := b - ((b / 2) &&& 85)
def g2 (b : Nat) : Nat := (b &&& 51) + ((b / 4) &&& 51)
def g3 (b : Nat) : Nat := (b + b / 16) &&& 15
theorem g_all (b : Fin 256) : g1 b.val < 256 ∧ g2 (g1 b.val) < 69 ∧ g2 (g1 b.val) % 16 < 5 ∧ g3 (g2 (g1 b.val)) = pcP 8 (fun i => b.val.testBit i) ∧ (b.val / 2) &&& 85 ≤ b.val := by
  revert b; decide +kernel
theorem s1_s (j y b : Nat) (hb : b < 256) : s1 (j + 1) (256 * y + b) = 256 * s1 j y + g1 b := by
  unfold s1
  have e : (256 * y + b) / 2 = 256 * (y / 2) + (128 * (y % 2) + b / 2) := by omega
  have h1 : 128 * (y % 2) + b / 2 < 256 := by omega
  rw [e, mk8, and_sp h1 (by decide), s1_b ⟨y % 2, by omega⟩ ⟨b, hb⟩]
  have h2 := (g_all ⟨b, hb⟩).2.2.2.2
  have h3 : (y / 2) &&& mk8 85 j ≤ y := Nat.le_trans Nat.and_le_left (Nat.div_le_self y 2)
  unfold g1
  simp only at h2 ⊢
  omega
theorem s2_s (j y b : Nat) (hb : b < 256) : s2 (j + 1) (256 * y + b) = 256 * s2 j y + g2 b := by
  unfold s2
  have e : (256 * y + b) / 4 = 256 * (y / 4) + (64 * (y % 4) + b / 4) := by omega
  have h1 : 64 * (y % 4) + b / 4 < 256 := by omega
  rw [e, mk8, and_sp h1 (by decide), and_sp hb (by decide), s2_b ⟨y % 4, by omega⟩ ⟨b, hb⟩]
  unfold g2
  simp only
  omega
theorem s3_s (j y b : Nat) (hb : b < 69) (hy : y % 16 < 5) : s3 (j + 1) (256 * y + b) = 256 * s3 j y + g3 b := by
  unfold s3
  have e : (256 * y + b) + (256 * y + b) / 16 = 256 * (y + y / 16) + (b + 16 * (y % 16) + b / 16) := by omega
  rw [e, mk8, and_sp (by omega) (by decide), s3_b ⟨y % 16, hy⟩ ⟨b, hb⟩]
  rfl
def uu (j n : Nat) : Nat := s3 j (s2 j (s1 j n))
theorem t_mod (j y : Nat) : s2 j (s1 j y) % 16 < 5 := by
  cases j with
  | zero => unfold s2 s1; simp [mk8]
  | succ j =>
    have h := g_all ⟨y % 256, Nat.mod_lt _ (by decide)⟩
    simp only at h
    have e : y = 256 * (y / 256) + y % 256 := by omega
    rw [e, s1_s _ _ _ (by omega), s2_s _ _ _ h.1]
    have := h.2.2.1
    omega
theorem uu_s (j y b : Nat) (hb : b < 256) : uu (j + 1) (256 * y + b) = 256 * uu j y + pcP 8 (fun i => b.testBit i) := by
  unfold uu
  have h := g_all ⟨b, hb⟩
  simp only at h
  rw [s1_s _ _ _ hb, s2_s _ _ _ h.1, s3_s _ _ _ h.2.1 (t_mod _ _), h.2.2.2.1]
theorem uu_n (j n : Nat) : uu (j + 1) n = 256 * uu j (n / 256) + pcP 8 (fun i => n.testBit i) := by
  have e : n = 256 * (n / 256) + n % 256 := by omega
  have h := uu_s j (n / 256) (n % 256) (by omega)
  rw [← e] at h
  rw [h]
  congr 1
  apply pcP_c
  intro k hk
  rw [show (256 : Nat) = 2 ^ 8 from rfl, Nat.testBit_mod_two_pow]
  simp [hk]

theorem uu_0 (n : Nat) : uu 0 n = 0 := by unfold uu s3; simp [mk8]
theorem tb_div (n a i : Nat) : (n / 2 ^ a).testBit i = n.testBit (a + i) := by
  rw [Nat.testBit_div_two_pow, Nat.add_comm]
theorem d256 (n a : Nat) : n / 2 ^ a / 256 = n / 2 ^ (a + 8) := by rw [Nat.div_div_eq_div_mul, Nat.pow_add]
def pB (n a : Nat) : Nat := pcP 8 (fun i => n.testBit (a + i))
theorem pB_le (n a : Nat) : pB n a ≤ 8 := pcP_le 8 _
theorem uu_a (j n a : Nat) : uu (j + 1) (n / 2 ^ a) = 256 * uu j (n / 2 ^ (a + 8)) + pB n a := by
  rw [uu_n, d256]
  congr 1
  exact pcP_c (fun k _ => tb_div n a k)
theorem uu_8 (n : Nat) : uu 8 n = 256 * (256 * (256 * (256 * (256 * (256 * (256 * pB n 56 + pB n 48) + pB n 40) + pB n 32) + pB n 24) + pB n 16) + pB n 8) + pB n 0 := by
  have e : n = n / 2 ^ 0 := by simp
  conv => lhs; rw [e]
  rw [uu_a, uu_a, uu_a, uu_a, uu_a, uu_a, uu_a, uu_a, uu_0]
  simp
theorem uu_4 (n : Nat) : uu 4 n = 256 * (256 * (256 * pB n 24 + pB n 16) + pB n 8) + pB n 0 := by
  have e : n = n / 2 ^ 0 := by simp
  conv => lhs; rw [e]
  rw [uu_a, uu_a, uu_a, uu_a, uu_0]
  simp
theorem pcP_64 (n : Nat) : pcP 64 (fun k => n.testBit k) = pB n 0 + pB n 8 + pB n 16 + pB n 24 + pB n 32 + pB n 40 + pB n 48 + pB n 56 := by
  unfold pB
  rw [show (64 : Nat) = 8 + 8 + 8 + 8 + 8 + 8 + 8 + 8 from rfl, pcP_add, pcP_add, pcP_add, pcP_add, pcP_add, pcP_add, pcP_add]
  simp only [Nat.zero_add]
theorem pcP_32 (n : Nat) : pcP 32 (fun k => n.testBit k) = pB n 0 + pB n 8 + pB n 16 + pB n 24 := by
  unfold pB
  rw [show (32 : Nat) = 8 + 8 + 8 + 8 from rfl, pcP_add, pcP_add, pcP_add]
  simp only [Nat.zero_add]
def tn (x : Int64) : Nat := x.toBitVec.toNat
def tni (x : Int32) : Nat := x.toBitVec.toNat
theorem tn_and (x y : Int64) : tn (x &&& y) = tn x &&& tn y := by unfold tn; rw [Int64.toBitVec_and, BitVec.toNat_and]
theorem tni_and (x y : Int32) : tni (x &&& y) = tni x &&& tni y := by unfold tni; rw [Int32.toBitVec_and, BitVec.toNat_and]
theorem tn_lt (x : Int64) : tn x < 18446744073709551616 := x.toBitVec.isLt
theorem tni_lt (x : Int32) : tni x < 4294967296 := x.toBitVec.isLt
theorem tn_add {x y : Int64} (h : tn x + tn y < 18446744073709551616) : tn (x + y) = tn x + tn y := by
  unfold tn at *; rw [Int64.toBitVec_add, BitVec.toNat_add]; exact Nat.mod_eq_of_lt h
theorem tni_add {x y : Int32} (h : tni x + tni y < 4294967296) : tni (x + y) = tni x + tni y := by
  unfold tni at *; rw [Int32.toBitVec_add, BitVec.toNat_add]; exact Nat.mod_eq_of_lt h
theorem tn_sub {x y : Int64} (h : tn y ≤ tn x) : tn (x - y) = tn x - tn y := by
  unfold tn at *; rw [Int64.toBitVec_sub, BitVec.toNat_sub_of_le (BitVec.le_def.mpr h)]
theorem tni_sub {x y : Int32} (h : tni y ≤ tni x) : tni (x - y) = tni x - tni y := by
  unfold tni at *; rw [Int32.toBitVec_sub, BitVec.toNat_sub_of_le (BitVec.le_def.mpr h)]
theorem tn_shr {x : Int64} {j : Nat} (h : j < 64) : tn (olushr x (Int32.ofNat j)) = tn x / 2 ^ j := by
  have e : (olushr x (Int32.ofNat j)).toBitVec = x.toBitVec >>> j := by
    show (x.toUInt64 >>> ((Int32.ofNat j).toInt64.toUInt64 &&& Int64.toUInt64 63)).toBitVec = _
    rw [UInt64.toBitVec_shiftRight, sh_lu h, BitVec.ushiftRight_eq', n64 h]
    rfl
  unfold tn
  rw [e, BitVec.toNat_ushiftRight, Nat.shiftRight_eq_div_pow]
theorem tni_shr {x : Int32} {j : Nat} (h : j < 32) : tni (oushr x (Int32.ofNat j)) = tni x / 2 ^ j := by
  have e : (oushr x (Int32.ofNat j)).toBitVec = x.toBitVec >>> j := by
    show (x.toUInt32 >>> ((Int32.ofNat j).toUInt32 &&& Int32.toUInt32 31)).toBitVec = _
    rw [UInt32.toBitVec_shiftRight, sh_iu h, BitVec.ushiftRight_eq', n32 h]
    rfl
  unfold tni
  rw [e, BitVec.toNat_ushiftRight, Nat.shiftRight_eq_div_pow]
theorem mod128 (n : Nat) : n &&& 127 = n % 128 := Nat.and_two_pow_sub_one_eq_mod n 7
theorem mod64 (n : Nat) : n &&& 63 = n % 64 := Nat.and_two_pow_sub_one_eq_mod n 6
theorem tni_inj {x y : Int32} (h : tni x = tni y) : x = y := Int32.toBitVec_inj.mp (BitVec.eq_of_toNat_eq h)
theorem tni_of {n : Nat} (h : n < 4294967296) : tni (Int32.ofNat n) = n := by
  show (BitVec.ofNat 32 n).toNat = n
  rw [BitVec.toNat_ofNat]; exact Nat.mod_eq_of_lt h
theorem tni_lo (x : Int64) : tni (Int64.toInt32 x) = tn x % 4294967296 := by
  unfold tni tn
  rw [Int64.toBitVec_toInt32]
  apply Nat.eq_of_testBit_eq
  intro i
  rw [BitVec.testBit_toNat, BitVec.getLsbD_signExtend, show (4294967296 : Nat) = 2 ^ 32 from rfl, Nat.testBit_mod_two_pow, BitVec.testBit_toNat]
  by_cases c : i < 32
  · have : i < 64 := by omega
    simp [c, this]
  · simp [c]

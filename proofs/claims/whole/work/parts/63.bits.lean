/-! LAYER 2: sets as bits of longs and ints -/
def bt (x : Int64) (k : Nat) : Bool := x.toBitVec.getLsbD k
def bi (x : Int32) (k : Nat) : Bool := x.toBitVec.getLsbD k
theorem bt_ext {x y : Int64} (h : ∀ k, k < 64 → bt x k = bt y k) : x = y := Int64.toBitVec_inj.mp (BitVec.eq_of_getLsbD_eq (fun i hi => h i hi))
theorem bi_ext {x y : Int32} (h : ∀ k, k < 32 → bi x k = bi y k) : x = y := Int32.toBitVec_inj.mp (BitVec.eq_of_getLsbD_eq (fun i hi => h i hi))
theorem bt_and (x y : Int64) (k : Nat) : bt (x &&& y) k = (bt x k && bt y k) := by
  unfold bt; rw [Int64.toBitVec_and, BitVec.getLsbD_and]
theorem bi_and (x y : Int32) (k : Nat) : bi (x &&& y) k = (bi x k && bi y k) := by
  unfold bi; rw [Int32.toBitVec_and, BitVec.getLsbD_and]
theorem bt_or (x y : Int64) (k : Nat) : bt (x ||| y) k = (bt x k || bt y k) := by
  unfold bt; rw [Int64.toBitVec_or, BitVec.getLsbD_or]
theorem bi_or (x y : Int32) (k : Nat) : bi (x ||| y) k = (bi x k || bi y k) := by
  unfold bi; rw [Int32.toBitVec_or, BitVec.getLsbD_or]
theorem bt_big {x : Int64} {k : Nat} (h : 64 ≤ k) : bt x k = false := BitVec.getLsbD_of_ge _ _ h
theorem bi_big {x : Int32} {k : Nat} (h : 32 ≤ k) : bi x k = false := BitVec.getLsbD_of_ge _ _ h
theorem bt_0 (k : Nat) : bt 0 k = false := by unfold bt; simp
theorem bi_0 (k : Nat) : bi 0 k = false := by unfold bi; simp
theorem bt_m1 {k : Nat} (h : k < 64) : bt (-1) k = true := by
  have : ∀ j : Fin 64, bt (-1) j = true := by decide
  exact this ⟨k, h⟩
theorem bi_m1 {k : Nat} (h : k < 32) : bi (-1) k = true := by
  have : ∀ j : Fin 32, bi (-1) j = true := by decide
  exact this ⟨k, h⟩
theorem bt_xor (x y : Int64) (k : Nat) : bt (x ^^^ y) k = (bt x k ^^ bt y k) := by
  unfold bt; rw [Int64.toBitVec_xor, BitVec.getLsbD_xor]
theorem bi_xor (x y : Int32) (k : Nat) : bi (x ^^^ y) k = (bi x k ^^ bi y k) := by
  unfold bi; rw [Int32.toBitVec_xor, BitVec.getLsbD_xor]
theorem bt_not {x : Int64} {k : Nat} (h : k < 64) : bt (x ^^^ (-1 : Int64)) k = !bt x k := by rw [bt_xor, bt_m1 h]; simp
theorem bi_not {x : Int32} {k : Nat} (h : k < 32) : bi (x ^^^ (-1 : Int32)) k = !bi x k := by rw [bi_xor, bi_m1 h]; simp
theorem sh_l {j : Nat} (h : j < 64) : ((Int32.ofNat j).toInt64 &&& 63).toBitVec.smod 64 = BitVec.ofNat 64 j := by
  have : ∀ i : Fin 64, ((Int32.ofNat i).toInt64 &&& 63).toBitVec.smod 64 = BitVec.ofNat 64 i := by decide
  exact this ⟨j, h⟩
theorem sh_lu {j : Nat} (h : j < 64) : ((Int32.ofNat j).toInt64.toUInt64 &&& Int64.toUInt64 63).toBitVec % 64 = BitVec.ofNat 64 j := by
  have : ∀ i : Fin 64, ((Int32.ofNat i).toInt64.toUInt64 &&& Int64.toUInt64 63).toBitVec % 64 = BitVec.ofNat 64 i := by decide
  exact this ⟨j, h⟩
theorem sh_i {j : Nat} (h : j < 32) : ((Int32.ofNat j) &&& 31).toBitVec.smod 32 = BitVec.ofNat 32 j := by
  have : ∀ i : Fin 32, ((Int32.ofNat i) &&& 31).toBitVec.smod 32 = BitVec.ofNat 32 i := by decide
  exact this ⟨j, h⟩
theorem sh_iu {j : Nat} (h : j < 32) : ((Int32.ofNat j).toUInt32 &&& Int32.toUInt32 31).toBitVec % 32 = BitVec.ofNat 32 j := by
  have : ∀ i : Fin 32, ((Int32.ofNat i).toUInt32 &&& Int32.toUInt32 31).toBitVec % 32 = BitVec.ofNat 32 i := by decide
  exact this ⟨j, h⟩
theorem n64 {j : Nat} (h : j < 64) : (BitVec.ofNat 64 j).toNat = j := by rw [BitVec.toNat_ofNat]; exact Nat.mod_eq_of_lt (by omega)
theorem n32 {j : Nat} (h : j < 32) : (BitVec.ofNat 32 j).toNat = j := by rw [BitVec.toNat_ofNat]; exact Nat.mod_eq_of_lt (by omega)
theorem bt_shl {x : Int64} {j k : Nat} (h : j < 64) : bt (olshl x (Int32.ofNat j)) k = (decide (k < 64) && !decide (k < j) && bt x (k - j)) := by
  unfold bt
  rw [Int64.toBitVec_shiftLeft, sh_l h, BitVec.shiftLeft_eq', n64 h, BitVec.getLsbD_shiftLeft]
theorem bi_shl {x : Int32} {j k : Nat} (h : j < 32) : bi (oshl x (Int32.ofNat j)) k = (decide (k < 32) && !decide (k < j) && bi x (k - j)) := by
  unfold bi
  rw [Int32.toBitVec_shiftLeft, sh_i h, BitVec.shiftLeft_eq', n32 h, BitVec.getLsbD_shiftLeft]
theorem bt_1 (k : Nat) : bt 1 k = decide (k = 0) := by
  by_cases h : k < 64
  · have : ∀ j : Fin 64, bt 1 j = decide ((j : Nat) = 0) := by decide
    exact this ⟨k, h⟩
  · rw [bt_big (by omega)]; have : ¬ k = 0 := by omega
    simp [this]
theorem bi_1 (k : Nat) : bi 1 k = decide (k = 0) := by
  by_cases h : k < 32
  · have : ∀ j : Fin 32, bi 1 j = decide ((j : Nat) = 0) := by decide
    exact this ⟨k, h⟩
  · rw [bi_big (by omega)]; have : ¬ k = 0 := by omega
    simp [this]
theorem bt_one {j k : Nat} (h : j < 64) : bt (olshl 1 (Int32.ofNat j)) k = decide (k = j) := by
  rw [bt_shl h, bt_1]
  by_cases e : k = j
  · subst e; simp [h]
  · by_cases g : k < j
    · simp [g, e]
    · have : ¬ k - j = 0 := by omega
      simp [this, e]
theorem bi_one {j k : Nat} (h : j < 32) : bi (oshl 1 (Int32.ofNat j)) k = decide (k = j) := by
  rw [bi_shl h, bi_1]
  by_cases e : k = j
  · subst e; simp [h]
  · by_cases g : k < j
    · simp [g, e]
    · have : ¬ k - j = 0 := by omega
      simp [this, e]
theorem bt_ush {x : Int64} {j k : Nat} (h : j < 64) : bt (olushr x (Int32.ofNat j)) k = bt x (j + k) := by
  unfold bt
  show ((x.toUInt64 >>> ((Int32.ofNat j).toInt64.toUInt64 &&& Int64.toUInt64 63)).toInt64).toBitVec.getLsbD k = _
  have e : ((x.toUInt64 >>> ((Int32.ofNat j).toInt64.toUInt64 &&& Int64.toUInt64 63)).toInt64).toBitVec = x.toBitVec >>> j := by
    show (x.toUInt64 >>> ((Int32.ofNat j).toInt64.toUInt64 &&& Int64.toUInt64 63)).toBitVec = _
    rw [UInt64.toBitVec_shiftRight, sh_lu h, BitVec.ushiftRight_eq', n64 h]
    rfl
  rw [e, BitVec.getLsbD_ushiftRight]
theorem bi_ush {x : Int32} {j k : Nat} (h : j < 32) : bi (oushr x (Int32.ofNat j)) k = bi x (j + k) := by
  unfold bi
  have e : ((x.toUInt32 >>> ((Int32.ofNat j).toUInt32 &&& Int32.toUInt32 31)).toInt32).toBitVec = x.toBitVec >>> j := by
    show (x.toUInt32 >>> ((Int32.ofNat j).toUInt32 &&& Int32.toUInt32 31)).toBitVec = _
    rw [UInt32.toBitVec_shiftRight, sh_iu h, BitVec.ushiftRight_eq', n32 h]
    rfl
  show ((x.toUInt32 >>> ((Int32.ofNat j).toUInt32 &&& Int32.toUInt32 31)).toInt32).toBitVec.getLsbD k = _
  rw [e, BitVec.getLsbD_ushiftRight]
theorem bt_shr {x : Int64} {j k : Nat} (h : j < 64) (hk : j + k < 64) : bt (olshr x (Int32.ofNat j)) k = bt x (j + k) := by
  unfold bt
  rw [Int64.toBitVec_shiftRight, sh_l h, BitVec.sshiftRight_eq', n64 h, BitVec.getLsbD_sshiftRight]
  have : ¬ 64 ≤ k := by omega
  simp [hk, this]
theorem bi_shr {x : Int32} {j k : Nat} (h : j < 32) (hk : j + k < 32) : bi (oshr x (Int32.ofNat j)) k = bi x (j + k) := by
  unfold bi
  rw [Int32.toBitVec_shiftRight, sh_i h, BitVec.sshiftRight_eq', n32 h, BitVec.getLsbD_sshiftRight]
  have : ¬ 32 ≤ k := by omega
  simp [hk, this]
theorem bt_x1 (x : Int64) : x &&& 1 = if bt x 0 then 1 else 0 := by
  apply bt_ext
  intro k hk
  rw [bt_and, bt_1]
  by_cases e : k = 0
  · subst e
    cases h : bt x 0 <;> simp [bt_0, bt_1]
  · cases h : bt x 0 <;> simp [bt_0, bt_1, e]
theorem bi_x1 (x : Int32) : x &&& 1 = if bi x 0 then 1 else 0 := by
  apply bi_ext
  intro k hk
  rw [bi_and, bi_1]
  by_cases e : k = 0
  · subst e
    cases h : bi x 0 <;> simp [bi_0, bi_1]
  · cases h : bi x 0 <;> simp [bi_0, bi_1, e]
/-- the test of a bit, as the class writes it -/
theorem tst_u {x : Int64} {j : Nat} (h : j < 64) : (olushr x (Int32.ofNat j)) &&& 1 = if bt x j then 1 else 0 := by
  rw [bt_x1, bt_ush h]; rfl
theorem tst_iu {x : Int32} {j : Nat} (h : j < 32) : (oushr x (Int32.ofNat j)) &&& 1 = if bi x j then 1 else 0 := by
  rw [bi_x1, bi_ush h]; rfl
theorem tst_s {x : Int64} {j : Nat} (h : j < 64) : (olshr x (Int32.ofNat j)) &&& 1 = if bt x j then 1 else 0 := by
  rw [bt_x1, bt_shr h (by omega)]; rfl
theorem lc0 {x y : Int64} : lg_cmp x y = 0 ↔ x = y := by
  constructor
  · intro h
    have h1 : ¬ lg_cmp x y < 0 := by rw [h]; decide
    have h2 : ¬ 0 < lg_cmp x y := by rw [h]; decide
    rw [lg_cmp_lt] at h1
    rw [lg_cmp_gt] at h2
    rw [l_lt] at h1 h2
    exact Int64.toInt_inj.mp (by omega)
  · intro h; subst h
    have h1 : ¬ lg_cmp x x < 0 := by rw [lg_cmp_lt, l_lt]; omega
    have h2 : ¬ 0 < lg_cmp x x := by rw [lg_cmp_gt, l_lt]; omega
    rw [i_lt] at h1 h2
    exact Int32.toInt_inj.mp (by rw [i_0] at *; omega)
theorem has_eq {x : Int64} {j : Nat} (h : j < 64) : F_X12_has x (Int32.ofNat j) = some (if bt x j then 1 else 0) := by
  unfold F_X12_has
  rw [tst_s h]
  cases bt x j <;> simp [lc0]
theorem bt_i {x : Int32} {k : Nat} (h : k < 32) : bt (Int32.toInt64 x) k = bi x k := by
  unfold bt bi
  rw [Int32.toBitVec_toInt64, BitVec.getLsbD_signExtend]
  have : k < 64 := by omega
  simp [h, this]

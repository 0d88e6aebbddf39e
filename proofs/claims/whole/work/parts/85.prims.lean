/-! LAYER 2: small questions, the row -/
theorem bothF {τ : Type} {fX : Option (τ × HI × HJ)} {fM : HI → HJ → Option (τ × HI × HJ)} {P : τ × HI × HJ → Prop} {Q : HI → HJ → Prop} {I : HI} {J : HJ} {wi wj vi vj : Pl} (hX : Ok fX P) (frX : Fo wi wj I J fX) (frM : ∀ I1 J1, Fo vi vj I1 J1 (fM I1 J1))
    (hM : ∀ r I1 J1, P (r, I1, J1) → Sm wi I I1 → Sm wj J J1 → Ok (fM I1 J1) (fun q => q.1 = r ∧ (Sm vi I1 q.2.1 → Sm vj J1 q.2.2 → Q q.2.1 q.2.2))) :
    ∃ r I1 J1 I2 J2, fX = some (r, I1, J1) ∧ fM I1 J1 = some (r, I2, J2) ∧ Q I2 J2 := by
  obtain ⟨⟨r, I1, J1⟩, h1, h2⟩ := hX
  obtain ⟨s1, s2⟩ := frX r I1 J1 h1
  obtain ⟨⟨r', I2, J2⟩, g1, g2, g3⟩ := hM r I1 J1 h2 s1 s2
  obtain ⟨t1, t2⟩ := frM I1 J1 r' I2 J2 g1
  refine ⟨r, I1, J1, I2, J2, h1, ?_, g3 t1 t2⟩
  rw [g1]; exact congrArg (fun z => some (z, I2, J2)) g2
theorem b1_ne {p : Bool} : (b1 p = nI 1) ↔ p = true := by cases p <;> simp [b1] <;> decide
theorem tni_0 {x : Int32} : x = nI 0 ↔ tni x = 0 := by
  constructor
  · intro h; rw [h]; rfl
  · intro h; exact tni_inj h
theorem tn_inj {x y : Int64} (h : tn x = tn y) : x = y := Int64.toBitVec_inj.mp (BitVec.eq_of_toNat_eq h)
theorem tn_0 {x : Int64} : x = lN 0 ↔ tn x = 0 := by
  constructor
  · intro h; rw [h]; rfl
  · intro h; exact tn_inj h
theorem bi_t (x : Int32) (k : Nat) : bi x k = (tni x).testBit k := by unfold bi tni; rw [BitVec.testBit_toNat]
theorem bt_t (x : Int64) (k : Nat) : bt x k = (tn x).testBit k := by unfold bt tn; rw [BitVec.testBit_toNat]
theorem lt_bits {x n : Nat} : x < 2 ^ n ↔ ∀ k, n ≤ k → x.testBit k = false := by
  constructor
  · intro h k hk
    exact Nat.testBit_lt_two_pow (Nat.lt_of_lt_of_le h (Nat.pow_le_pow_right (by decide) hk))
  · intro h; exact Nat.lt_pow_two_of_testBit x h
theorem ushr0 {x : Int32} {W : Nat} (hW : W < 32) : oushr x (nI W) = nI 0 ↔ ∀ k, W ≤ k → bi x k = false := by
  rw [tni_0, show tni (oushr x (nI W)) = tni x / 2 ^ W from tni_shr hW, Nat.div_eq_zero_iff_lt (Nat.two_pow_pos W), lt_bits]
  simp only [bi_t]
theorem lushr0 {x : Int64} {L : Nat} (hL : L < 64) : olushr x (nI L) = lN 0 ↔ okLp L x := by
  rw [tn_0, show tn (olushr x (nI L)) = tn x / 2 ^ L from tn_shr hL, Nat.div_eq_zero_iff_lt (Nat.two_pow_pos L), lt_bits]
  unfold okLp
  simp only [bt_t]
theorem and0 {x y : Int32} : x &&& y = nI 0 ↔ okS (bi x) (bi y) := by
  constructor
  · intro h w
    by_cases c : w < 32
    · rw [← bi_and, h, bi_z]
    · rw [bi_big (by omega)]; rfl
  · intro h
    apply bi_ext
    intro k _
    rw [bi_and, bi_z]; exact h k
theorem toInt_tni {x : Int32} {n : Nat} (hn : n < 2147483648) : (0 ≤ x.toInt ∧ x.toInt ≤ (n : Int)) ↔ tni x ≤ n := by
  have h : x.toInt = (tni x : Int).bmod 4294967296 := by
    show x.toBitVec.toInt = _
    rw [BitVec.toInt_eq_toNat_bmod]; rfl
  have hl := tni_lt x
  rw [h, Int.bmod_def]
  split <;> omega
theorem toInt_tn {x : Int64} {n : Nat} (hn : n < 9223372036854775808) : (0 ≤ x.toInt ∧ x.toInt ≤ (n : Int)) ↔ tn x ≤ n := by
  have h : x.toInt = (tn x : Int).bmod 18446744073709551616 := by
    show x.toBitVec.toInt = _
    rw [BitVec.toInt_eq_toNat_bmod]; rfl
  have hl := tn_lt x
  rw [h, Int.bmod_def]
  split <;> omega
theorem or_hi {x y : Int32} {W : Nat} : (∀ k, W ≤ k → bi (x ||| y) k = false) ↔ ∀ k, W ≤ k → bi x k = false ∧ bi y k = false := by
  constructor
  · intro h k hk
    have := h k hk
    rw [bi_or] at this
    simpa using this
  · intro h k hk
    rw [bi_or, (h k hk).1, (h k hk).2]; rfl
theorem X0_hasSetting {W : Nat} {h l : Int32} {I : HI} {J : HJ} (hW : W ≤ 10) (e : I x_board f_Board_wide = nI W) : (okSt W h l ∧ F_X0_hasSetting h l I J = some (nI 1)) ∨ (¬ okSt W h l ∧ F_X0_hasSetting h l I J = some (nI 0)) := by
  unfold F_X0_hasSetting
  rw [e]
  by_cases c1 : h &&& l = 0
  · rw [if_pos c1]
    have c1' := and0.mp (show h &&& l = nI 0 from c1)
    by_cases c2 : oushr (h ||| l) (nI W) = 0
    · rw [if_pos c2]
      exact Or.inl ⟨⟨c1', or_hi.mp ((ushr0 (by omega)).mp (show oushr (h ||| l) (nI W) = nI 0 from c2))⟩, rfl⟩
    · rw [if_neg c2]
      exact Or.inr ⟨fun hh => c2 ((ushr0 (by omega)).mpr (or_hi.mpr hh.2)), rfl⟩
  · rw [if_neg c1]
    exact Or.inr ⟨fun hh => c1 (and0.mpr hh.1), rfl⟩
theorem in_b (a : Int64) (n : Nat) (hn : n < 9223372036854775808) : F_X12_in a (lN 0) (lN n) = some (b1 (decide (tn a ≤ n))) := by
  rw [in_spec]
  have h0 : (lN 0).toInt = 0 := by decide
  rw [h0, L_int hn]
  by_cases c : tn a ≤ n
  · rw [if_pos ((toInt_tn hn).mpr c), decide_eq_true c]; rfl
  · rw [if_neg (fun h => c ((toInt_tn hn).mp h)), decide_eq_false c]; rfl
theorem in_bi (a : Int32) (n : Nat) (hn : n < 2147483648) : F_X12_in (Int32.toInt64 a) (lN 0) (lN n) = some (b1 (decide (tni a ≤ n))) := by
  rw [in_spec]
  have h0 : (lN 0).toInt = 0 := by decide
  rw [h0, L_int (by omega), l_i]
  by_cases c : tni a ≤ n
  · rw [if_pos ((toInt_tni hn).mpr c), decide_eq_true c]; rfl
  · rw [if_neg (fun h => c ((toInt_tni hn).mp h)), decide_eq_false c]; rfl
theorem pw_all : ∀ W : Fin 11, oshl (nI 1) (nI W.val) - nI 1 = nI (2 ^ W.val - 1) ∧ 2 ^ W.val < 2048 := by decide
theorem pwl_all : ∀ L : Fin 61, olshl (lN 1) (nI L.val) - lN 1 = lN (2 ^ L.val - 1) ∧ 2 ^ L.val < 9223372036854775808 := by decide +kernel
theorem X12_isSetting {W : Nat} {h l : Int32} {I : HI} {J : HJ} (hW : W ≤ 10) (e : I m_self f_Model_wide = nI W) : (okSt W h l → F_X12_isSetting h l I J = some (nI 1)) ∧ (¬ okSt W h l → F_X12_isSetting h l I J = some (nI 0)) := by
  obtain ⟨p1, p2⟩ := pw_all ⟨W, by omega⟩
  simp only at p1 p2
  have hp := Nat.two_pow_pos W
  unfold F_X12_isSetting
  rw [e]
  simp only [lb, lit32, p1]
  rw [n_l (by omega)]
  have hh : ∀ x : Int32, decide (tni x ≤ 2 ^ W - 1) = true ↔ ∀ k, W ≤ k → bi x k = false := fun x => by
    rw [decide_eq_true_eq]
    simp only [bi_t]
    rw [← lt_bits]; omega
  simp only [litL]
  rw [in_bi h _ (by omega), in_bi l _ (by omega)]
  simp only [cp, Option.bind_some]
  constructor
  · intro ok
    have e1 := (hh h).mpr (fun k hk => (ok.2 k hk).1)
    have e2 := (hh l).mpr (fun k hk => (ok.2 k hk).2)
    rw [e1, e2, if_neg (by decide), if_neg (by decide), if_pos (and0.mpr ok.1)]
  · intro nk
    by_cases c1 : decide (tni h ≤ 2 ^ W - 1) = true
    · rw [c1, if_neg (by decide)]
      by_cases c2 : decide (tni l ≤ 2 ^ W - 1) = true
      · rw [c2, if_neg (by decide), if_neg]
        intro c3
        exact nk ⟨and0.mp c3, fun k hk => ⟨(hh h).mp c1 k hk, (hh l).mp c2 k hk⟩⟩
      · rw [Bool.not_eq_true] at c2
        rw [c2, if_pos (by decide)]
    · rw [Bool.not_eq_true] at c1
      rw [c1, if_pos (by decide)]
theorem X0_hasLamps {L : Nat} {x : Int64} {I : HI} {J : HJ} (hL : L ≤ 60) (e : I x_board f_Board_lamps = nI L) : (okLp L x ∧ F_X0_hasLamps x I J = some (nI 1)) ∨ (¬ okLp L x ∧ F_X0_hasLamps x I J = some (nI 0)) := by
  unfold F_X0_hasLamps
  rw [e]
  simp only [lit32, litL, cm0]
  by_cases c1 : olushr x (nI L) = lN 0
  · rw [if_pos c1]; exact Or.inl ⟨(lushr0 (by omega)).mp c1, rfl⟩
  · rw [if_neg c1]; exact Or.inr ⟨fun h => c1 ((lushr0 (by omega)).mpr h), rfl⟩
theorem g01_b {α : Type} (p : Bool) (f : Option α) : g01 (b1 p) f = f := by
  unfold g01; rw [if_pos]; cases p
  · exact Or.inl rfl
  · exact Or.inr rfl
theorem X12_areLamps {L : Nat} {x : Int64} {I : HI} {J : HJ} (hL : L ≤ 60) (e : I m_self f_Model_lamps = nI L) : (okLp L x → F_X12_areLamps x I J = some (nI 1)) ∧ (¬ okLp L x → F_X12_areLamps x I J = some (nI 0)) := by
  obtain ⟨p1, p2⟩ := pwl_all ⟨L, by omega⟩
  simp only at p1 p2
  have hp := Nat.two_pow_pos L
  unfold F_X12_areLamps
  rw [e]
  simp only [lit32, litL, p1]
  rw [in_b x _ (by omega)]
  simp only [cp, Option.bind_some, g01_b]
  have hh : decide (tn x ≤ 2 ^ L - 1) = true ↔ okLp L x := by
    rw [decide_eq_true_eq]
    unfold okLp
    simp only [bt_t]
    rw [← lt_bits]; omega
  constructor
  · intro ok; rw [hh.mpr ok]; rfl
  · intro nk
    have : decide (tn x ≤ 2 ^ L - 1) = false := by
      cases hd : decide (tn x ≤ 2 ^ L - 1) with
      | false => rfl
      | true => exact absurd (hh.mp hd) nk
    rw [this]; rfl
-- a number that is within
theorem i_case (x : Int32) (n : Nat) (hn : n ≤ 1000) : (∃ i, i < n ∧ x = nI i) ∨ ((x < 0 ∨ nI n ≤ x) ∧ ∀ i, i < n → x ≠ nI i) := by
  by_cases c : 0 ≤ x.toInt ∧ x.toInt < (n : Int)
  · left
    obtain ⟨m, h1, h2, h3⟩ := i_of c.1
    exact ⟨m, by omega, h1⟩
  · right
    refine ⟨?_, fun i hi h => ?_⟩
    · by_cases d : 0 ≤ x.toInt
      · right; rw [i_le, n_int (by omega)]; omega
      · left; rw [i_lt, i_0]; omega
    · rw [h, n_int (by omega)] at c; omega
theorem n_nn {a : Nat} (ha : a < 2147483648) : ¬ nI a < 0 := by rw [i_lt, i_0, n_int ha]; omega
theorem X0_hasLamp {L : Nat} {x : Int32} {I : HI} {J : HJ} (hL : L ≤ 60) (e : I x_board f_Board_lamps = nI L) : ((∃ i, i < L ∧ x = nI i) → F_X0_hasLamp x I J = some (nI 1)) ∧ ((x < 0 ∨ nI L ≤ x) → F_X0_hasLamp x I J = some (nI 0)) := by
  unfold F_X0_hasLamp
  rw [e]
  constructor
  · rintro ⟨i, hi, rfl⟩
    rw [if_neg (n_nn (by omega)), if_neg (by rw [n_le] <;> omega)]; rfl
  · intro h
    by_cases c : x < 0
    · rw [if_pos c]; rfl
    · rw [if_neg c, if_pos (by rcases h with h | h; exact absurd h c; exact h)]; rfl
theorem X0_hasWire {L : Nat} {x : Int32} {I : HI} {J : HJ} (hL : L ≤ 60) (e : I x_board f_Board_wide = nI L) : ((∃ i, i < L ∧ x = nI i) → F_X0_hasWire x I J = some (nI 1)) ∧ ((x < 0 ∨ nI L ≤ x) → F_X0_hasWire x I J = some (nI 0)) := by
  unfold F_X0_hasWire
  rw [e]
  constructor
  · rintro ⟨i, hi, rfl⟩
    rw [if_neg (n_nn (by omega)), if_neg (by rw [n_le] <;> omega)]; rfl
  · intro h
    by_cases c : x < 0
    · rw [if_pos c]; rfl
    · rw [if_neg c, if_pos (by rcases h with h | h; exact absurd h c; exact h)]; rfl
theorem in_x {x : Int32} {n : Nat} (hn : n ≤ 1000) : ((∃ i, i < n ∧ x = nI i) → F_X12_in (Int32.toInt64 x) (lN 0) (Int32.toInt64 (nI n - nI 1)) = some (nI 1)) ∧ ((x < 0 ∨ nI n ≤ x) → F_X12_in (Int32.toInt64 x) (lN 0) (Int32.toInt64 (nI n - nI 1)) = some (nI 0)) := by
  have e1 : (nI n - nI 1).toInt = (n : Int) - 1 := by
    rw [i_sub] <;> rw [n_int (by omega), show (nI 1).toInt = 1 by decide] <;> omega
  have h0 : (lN 0).toInt = 0 := by decide
  rw [in_spec, l_i, l_i, e1, h0]
  constructor
  · rintro ⟨i, hi, rfl⟩
    rw [n_int (by omega), if_pos (by omega)]; rfl
  · intro h
    rw [if_neg]
    · rfl
    · rcases h with h | h
      · rw [i_lt, i_0] at h; omega
      · rw [i_le, n_int (by omega)] at h; omega
theorem g01_1 {α : Type} (f : Option α) : g01 (nI 1) f = f := g01_b true f
theorem g01_0 {α : Type} (f : Option α) : g01 (nI 0) f = f := g01_b false f
theorem X12_isLamp {L : Nat} {x : Int32} {I : HI} {J : HJ} (hL : L ≤ 60) (e : I m_self f_Model_lamps = nI L) : ((∃ i, i < L ∧ x = nI i) → F_X12_isLamp x I J = some (nI 1)) ∧ ((x < 0 ∨ nI L ≤ x) → F_X12_isLamp x I J = some (nI 0)) := by
  unfold F_X12_isLamp
  rw [e]
  simp only [lit32, litL]
  obtain ⟨h1, h2⟩ := in_x (x := x) (n := L) (by omega)
  exact ⟨fun h => by rw [h1 h]; simp only [cp, Option.bind_some, g01_1], fun h => by rw [h2 h]; simp only [cp, Option.bind_some, g01_0]⟩
theorem X12_isWire {L : Nat} {x : Int32} {I : HI} {J : HJ} (hL : L ≤ 60) (e : I m_self f_Model_wide = nI L) : ((∃ i, i < L ∧ x = nI i) → F_X12_isWire x I J = some (nI 1)) ∧ ((x < 0 ∨ nI L ≤ x) → F_X12_isWire x I J = some (nI 0)) := by
  unfold F_X12_isWire
  rw [e]
  simp only [lit32, litL]
  obtain ⟨h1, h2⟩ := in_x (x := x) (n := L) (by omega)
  exact ⟨fun h => by rw [h1 h]; simp only [cp, Option.bind_some, g01_1], fun h => by rw [h2 h]; simp only [cp, Option.bind_some, g01_0]⟩
-- the row
def tX (xs : List Int64) (I : HI) (J : HJ) : Prop := I x_told f_Told_size = nI xs.length ∧ xs.length ≤ 16 ∧ ∀ k, k < xs.length → J x_told_numbers k = xs.getD k 0
def tM (xs : List Int64) (I : HI) (J : HJ) : Prop := I m_self f_Model_rowMany = nI xs.length ∧ ∀ k, k < xs.length → J m_row k = xs.getD k 0
theorem tX_0 (I : HI) (J : HJ) : F_X10_clear I J = some ((), ui I x_told f_Told_size 0, J) ∧ tX [] (ui I x_told f_Told_size 0) J := ⟨rfl, by rw [ui_r]; rfl, by simp, fun k hk => by simp at hk⟩
theorem getD_a {xs : List Int64} {l : Int64} {k : Nat} (h : k < xs.length) : (xs ++ [l]).getD k 0 = xs.getD k 0 := by
  simp [List.getD, List.getElem?_append_left h]
theorem getD_aL {xs : List Int64} {l : Int64} : (xs ++ [l]).getD xs.length 0 = l := by simp [List.getD]
theorem tX_add {xs : List Int64} {I : HI} {J : HJ} (h : tX xs I J) (v : Int64) (hl : xs.length < 16) : Ok (F_X10_add v I J) (fun q => tX (xs ++ [v]) q.2.1 q.2.2) := by
  obtain ⟨h1, h2, h3⟩ := h
  unfold F_X10_add
  rw [h1]
  simp (disch := omega) only [lit32, n_le, n_bx, n_cl, lb, nI_add]
  rw [if_neg (by omega)]
  refine Ok.mk ⟨?_, ?_, fun k hk => ?_⟩
  · dsimp only; rw [ui_r]; simp
  · simp; omega
  · dsimp only
    rw [List.length_append, List.length_singleton] at hk
    rw [uj_s]
    by_cases c : k = xs.length
    · subst c; rw [if_pos rfl, getD_aL]
    · rw [if_neg c, getD_a (by omega)]; exact h3 k (by omega)
theorem tM_add {xs : List Int64} {I : HI} {J : HJ} (h : tM xs I J) (v : Int64) (hl : xs.length < 210) : Ok (F_X12_tell v I J) (fun q => tM (xs ++ [v]) q.2.1 q.2.2) := by
  obtain ⟨h1, h3⟩ := h
  unfold F_X12_tell
  rw [h1]
  simp (disch := omega) only [lit32, n_bx, n_cl, lb, nI_add]
  refine Ok.mk ⟨?_, fun k hk => ?_⟩
  · dsimp only; rw [ui_r]; simp
  · dsimp only
    rw [List.length_append, List.length_singleton] at hk
    rw [uj_s]
    by_cases c : k = xs.length
    · subst c; rw [if_pos rfl, getD_aL]
    · rw [if_neg c, getD_a (by omega)]; exact h3 k (by omega)
theorem tX.keep {xs : List Int64} {I I' : HI} {J J' : HJ} (h : tX xs I J) (a : Ag [(x_told, some f_Told_size)] I I') (b : Ag [(x_told_numbers, none)] J J') : tX xs I' J' := ⟨by rw [a _ _ rfl]; exact h.1, h.2.1, fun k hk => by rw [b _ _ rfl]; exact h.2.2 k hk⟩
theorem tM.keep {xs : List Int64} {I I' : HI} {J J' : HJ} (h : tM xs I J) (a : Ag [(m_self, some f_Model_rowMany)] I I') (b : Ag [(m_row, none)] J J') : tM xs I' J' := ⟨by rw [a _ _ rfl]; exact h.1, fun k hk => by rw [b _ _ rfl]; exact h.2 k hk⟩
theorem CTold.of {xs : List Int64} {I : HI} {J : HJ} (h : tX xs I J) (g : tM xs I J) : CTold I J := ⟨xs.length, h.2.1, h.1, g.1, fun k hk => by rw [h.2.2 k hk, g.2 k hk]⟩

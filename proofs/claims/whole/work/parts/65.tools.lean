/-! LAYER 2: tools of loops and numbers -/
theorem up {n : Nat} {P : Nat → Nat → Prop} (h1 : ∀ K, P (K + 1) n) (h2 : ∀ K i, i < n → P K (i + 1) → P (K + 1) i) : ∀ K i, i ≤ n → n - i < K → P K i := by
  intro K
  induction K with
  | zero => intro i _ h; omega
  | succ K ih =>
    intro i hi hK
    by_cases c : i = n
    · subst c; exact h1 K
    · exact h2 K i (by omega) (ih (i + 1) (by omega) (by omega))
theorem dw {P : Nat → Nat → Prop} (h1 : ∀ K, P (K + 1) 0) (h2 : ∀ K i, P K i → P (K + 1) (i + 1)) : ∀ K i, i < K → P K i := by
  intro K
  induction K with
  | zero => intro i h; omega
  | succ K ih =>
    intro i hK
    cases i with
    | zero => exact h1 K
    | succ i => exact h2 K i (ih i (by omega))
theorem lit32 (n : Nat) : (@OfNat.ofNat Int32 n Int32.instOfNat) = nI n := Eq.trans (Eq.refl _) (Eq.refl _)
theorem litL (n : Nat) : (@OfNat.ofNat Int64 n Int64.instOfNat) = lN n := Eq.trans (Eq.refl _) (Eq.refl _)
theorem oN32 (n : Nat) : Int32.ofNat n = nI n := Eq.trans (Eq.refl _) (Eq.refl _)
theorem n_le {a b : Nat} (ha : a < 2147483648) (hb : b < 2147483648) : nI a ≤ nI b ↔ a ≤ b := nI_leI ha hb
theorem n_lt {a b : Nat} (ha : a < 2147483648) (hb : b < 2147483648) : nI a < nI b ↔ a < b := nI_ltI ha hb
theorem n_eq {a b : Nat} (ha : a < 2147483648) (hb : b < 2147483648) : nI a = nI b ↔ a = b := nI_eq ha hb
theorem n_cl {a : Nat} (ha : a < 2147483648) : (nI a).toNatClampNeg = a := nI_clamp ha
theorem n_bx {α : Type} {a N : Nat} {f : Option α} (h : a < N) (hN : N < 2147483648) : bx (nI a) N f = f := bx_of h hN
theorem n_sub {a b : Nat} (h : b ≤ a) : nI a - nI b = nI (a - b) := by
  have e : nI a = nI (a - b) + nI b := by rw [nI_add, Nat.sub_add_cancel h]
  rw [e]
  apply Int32.toBitVec_inj.mp
  rw [Int32.toBitVec_sub, Int32.toBitVec_add, BitVec.add_sub_cancel]
theorem n_mul (a b : Nat) : nI a * nI b = nI (a * b) := (Int32.ofNat_mul a b).symm
theorem n_m1 (a : Nat) : nI (a + 1) + (-nI 1) = nI a := by
  rw [show nI (a + 1) + (-nI 1) = nI (a + 1) - nI 1 from (Int32.sub_eq_add_neg ..).symm, n_sub (by omega)]; rfl
theorem n_int {a : Nat} (ha : a < 2147483648) : (nI a).toInt = (a : Int) := nI_toInt ha
theorem n_neg1 : (-nI 1).toInt = -1 := by decide
theorem n_ne1 {a : Nat} (ha : a < 2147483648) : (nI a = -nI 1) ↔ False := by
  constructor
  · intro h
    have := congrArg Int32.toInt h
    rw [n_int ha, n_neg1] at this; omega
  · exact False.elim
theorem n_ne1' {a : Nat} (ha : a < 2147483648) : (-nI 1 = nI a) ↔ False := by
  rw [eq_comm, n_ne1 ha]
theorem n_l {a : Nat} (ha : a < 2147483648) : (nI a).toInt64 = lN a := nI_l ha
theorem L_int {a : Nat} (ha : a < 9223372036854775808) : (lN a).toInt = (a : Int) := by
  show (Int64.ofNat a).toInt = a
  exact Int64.toInt_ofNat_of_lt ha
theorem L_le {a b : Nat} (ha : a < 9223372036854775808) (hb : b < 9223372036854775808) : lN a ≤ lN b ↔ a ≤ b := by
  rw [l_le, L_int ha, L_int hb]; omega
theorem L_lt {a b : Nat} (ha : a < 9223372036854775808) (hb : b < 9223372036854775808) : lN a < lN b ↔ a < b := by
  rw [l_lt, L_int ha, L_int hb]; omega
theorem L_eq {a b : Nat} (ha : a < 9223372036854775808) (hb : b < 9223372036854775808) : lN a = lN b ↔ a = b := by
  constructor
  · intro h; have := congrArg Int64.toInt h; rw [L_int ha, L_int hb] at this; omega
  · intro h; rw [h]
-- reads behind writes, within one cell
theorem ui_s {I : HI} {c i j : Nat} {v : Int32} : ui I c i v c j = if j = i then v else I c j := by rw [ui_at]; simp
theorem uj_s {I : HJ} {c i j : Nat} {v : Int64} : uj I c i v c j = if j = i then v else I c j := by rw [uj_at]; simp
-- bits by nI and lN
theorem t_u {x : Int64} {j : Nat} (h : j < 64) : (olushr x (nI j)) &&& lN 1 = if bt x j then lN 1 else lN 0 := tst_u h
theorem t_iu {x : Int32} {j : Nat} (h : j < 32) : (oushr x (nI j)) &&& nI 1 = if bi x j then nI 1 else nI 0 := tst_iu h
theorem t_one {j k : Nat} (h : j < 64) : bt (olshl (lN 1) (nI j)) k = decide (k = j) := bt_one h
theorem t_ione {j k : Nat} (h : j < 32) : bi (oshl (nI 1) (nI j)) k = decide (k = j) := bi_one h
theorem t_has {x : Int64} {j : Nat} (h : j < 64) : F_X12_has x (nI j) = some (if bt x j then nI 1 else nI 0) := has_eq h
theorem t_hasI {x : Int32} {j : Nat} (h : j < 32) : F_X12_has (Int32.toInt64 x) (nI j) = some (if bi x j then nI 1 else nI 0) := by rw [t_has (by omega), bt_i h]
theorem bt_z (k : Nat) : bt (lN 0) k = false := bt_0 k
theorem bi_z (k : Nat) : bi (nI 0) k = false := bi_0 k
theorem if10 {p : Bool} : ((if p then nI 1 else nI 0) = nI 0) ↔ p = false := by cases p <;> simp <;> decide
theorem if10L {p : Bool} : ((if p then lN 1 else lN 0) = lN 0) ↔ p = false := by cases p <;> simp <;> decide
theorem cm0 {x y : Int64} : (lg_cmp x y = nI 0) ↔ x = y := lc0
theorem cml {x y : Int64} : (lg_cmp x y < nI 0) ↔ x < y := lg_cmp_lt x y
theorem cmg {x y : Int64} : (nI 0 < lg_cmp x y) ↔ y < x := lg_cmp_gt x y
theorem cmle {x y : Int64} : (lg_cmp x y ≤ nI 0) ↔ x ≤ y := lg_cmp_le x y
theorem cmge {x y : Int64} : (nI 0 ≤ lg_cmp x y) ↔ y ≤ x := lg_cmp_ge x y
theorem bcN (x : Int64) : F_J13_bitCount_95d88 x = some (nI (pc x)) := bc64 x
theorem bcNi (x : Int32) : F_J6_bitCount_0f7a4 x = some (nI (pci x)) := bc32 x
theorem ntN {x : Int64} (h : x ≠ lN 0) : ∃ k, k < 64 ∧ F_J13_numberOfTrailingZeros_95d88 x = some (nI k) ∧ bt x k = true ∧ ∀ j, j < k → bt x j = false := ntz64 h
theorem ntNi {x : Int32} (h : x ≠ nI 0) : ∃ k, k < 32 ∧ F_J6_numberOfTrailingZeros_0f7a4 x = some (nI k) ∧ bi x k = true ∧ ∀ j, j < k → bi x j = false := ntz32 h
/-- the bits of a set, rising -/
def bits (x : Int64) : List Nat := (List.range 64).filter (bt x)
theorem bits_pc (x : Int64) : (bits x).length = pc x := by
  unfold bits pc pcP; rw [List.countP_eq_length_filter]
theorem range_split {n k : Nat} (h : k < n) : List.range n = List.range k ++ k :: (List.range (n - k - 1)).map (fun i => k + 1 + i) := by
  have e : n = k + (1 + (n - k - 1)) := by omega
  conv => lhs; rw [e]
  rw [List.range_add, List.range_add]
  simp [Nat.add_assoc, Function.comp_def]
theorem bits_low {x : Int64} {k : Nat} (hk : k < 64) (h1 : bt x k = true) (h2 : ∀ j, j < k → bt x j = false) : bits x = k :: bits (x &&& (x - lN 1)) := by
  have hb : ∀ j, bt (x &&& (x - lN 1)) j = (bt x j && !decide (j = k)) := low_and h1 h2
  unfold bits
  rw [range_split hk]
  rw [List.filter_append, List.filter_append, List.filter_cons, List.filter_cons, h1]
  have e1 : (List.range k).filter (bt x) = [] := by
    rw [List.filter_eq_nil_iff]; intro a ha; rw [h2 a (List.mem_range.mp ha)]; simp
  have e2 : (List.range k).filter (bt (x &&& (x - lN 1))) = [] := by
    rw [List.filter_eq_nil_iff]; intro a ha; rw [hb, h2 a (List.mem_range.mp ha)]; simp
  have e3 : bt (x &&& (x - lN 1)) k = false := by rw [hb, h1]; simp
  rw [e1, e2, e3]
  simp only [List.nil_append, if_true, Bool.false_eq_true, if_false]
  congr 1
  apply List.filter_congr
  intro a ha
  obtain ⟨i, _, rfl⟩ := List.mem_map.mp ha
  rw [hb]
  have : ¬ k + 1 + i = k := by omega
  simp [this]
theorem bits_nil {x : Int64} (h : bits x = []) : x = lN 0 := by
  apply bt_ext
  intro k hk
  rw [bt_z]
  have := List.filter_eq_nil_iff.mp h k (List.mem_range.mpr hk)
  simpa using this
theorem bits_mem {x : Int64} {k : Nat} : k ∈ bits x ↔ bt x k = true := by
  unfold bits
  rw [List.mem_filter, List.mem_range]
  constructor
  · exact fun h => h.2
  · intro h
    refine ⟨?_, h⟩
    by_cases c : k < 64
    · exact c
    · rw [bt_big (by omega)] at h; cases h
/-- the first bit, and the rest -/
theorem bits_cons {x : Int64} {k : Nat} {ks : List Nat} (h : bits x = k :: ks) : k < 64 ∧ F_J13_numberOfTrailingZeros_95d88 x = some (nI k) ∧ bits (x &&& (x - lN 1)) = ks := by
  have hx : x ≠ lN 0 := by
    intro e
    have : bits (lN 0) = [] := List.filter_eq_nil_iff.mpr (fun a _ => by rw [bt_z]; simp)
    rw [e, this] at h; cases h
  obtain ⟨k', g0, g1, g2, g3⟩ := ntN hx
  have e := bits_low g0 g2 g3
  rw [h] at e
  injection e with e1 e2
  subst e1
  exact ⟨g0, g1, e2.symm⟩
theorem filter_fm {α β : Type} (p : α → Bool) (f : α → List β) (l : List α) : (l.filter p).flatMap f = l.flatMap (fun x => if p x then f x else []) := by
  induction l with
  | nil => rfl
  | cons a l ih =>
    rw [List.filter_cons, List.flatMap_cons]
    cases h : p a
    · simp [ih]
    · simp [ih]
theorem rng_filter {n m : Nat} (h : n ≤ m) (p : Nat → Bool) : (List.range m).filter (fun l => decide (l < n) && p l) = (List.range n).filter p := by
  have e : m = n + (m - n) := by omega
  rw [e, List.range_add, List.filter_append]
  have e1 : ((List.range (m - n)).map (fun x => n + x)).filter (fun l => decide (l < n) && p l) = [] := by
    rw [List.filter_eq_nil_iff]
    intro a ha
    obtain ⟨i, _, rfl⟩ := List.mem_map.mp ha
    have : ¬ n + i < n := by omega
    simp [this]
  rw [e1, List.append_nil]
  apply List.filter_congr
  intro a ha
  have := List.mem_range.mp ha
  simp [this]
/-- a set of the first n, by its members -/
def stN (n : Nat) (p : Nat → Bool) : Int64 := (List.range n).foldl (fun x k => if p k then x ||| olshl (lN 1) (nI k) else x) (lN 0)
theorem stN_s (n : Nat) (p : Nat → Bool) : stN (n + 1) p = if p n then stN n p ||| olshl (lN 1) (nI n) else stN n p := by
  unfold stN
  rw [List.range_succ, List.foldl_append]; rfl
theorem stN_b {n : Nat} (hn : n ≤ 64) (p : Nat → Bool) (k : Nat) : bt (stN n p) k = (decide (k < n) && p k) := by
  induction n with
  | zero => unfold stN; simp [bt_z]
  | succ n ih =>
    rw [stN_s]
    have ih := ih (by omega)
    by_cases c : k = n
    · subst c
      cases h : p k
      · simp [ih]
      · rw [if_pos rfl, bt_or, ih, t_one (by omega)]; simp
    · have e : decide (k < n + 1) = decide (k < n) := by
        by_cases d : k < n
        · have : k < n + 1 := by omega
          simp [d, this]
        · have : ¬ k < n + 1 := by omega
          simp [d, this]
      cases h : p n
      · simp [ih, e]
      · rw [if_pos rfl, bt_or, ih, t_one (by omega), e]; simp [c]
/-- frames, from a result -/
theorem Fo_gt {τ : Type} {wi wj : Pl} {I I' : HI} {J J' : HJ} {f : Option (τ × HI × HJ)} {r : τ} (h : Fo wi wj I J f) (e : f = Option.some (r, I', J')) : Sm wi I I' ∧ Sm wj J J' := h r I' J' e
theorem Ok.fo {τ : Type} {wi wj : Pl} {I : HI} {J : HJ} {f : Option (τ × HI × HJ)} {Q : τ × HI × HJ → Prop} (h : Ok f Q) (g : Fo wi wj I J f) : Ok f (fun q => Q q ∧ Sm wi I q.2.1 ∧ Sm wj J q.2.2) := by
  obtain ⟨⟨r, I', J'⟩, h1, h2⟩ := h
  exact ⟨_, h1, h2, g r I' J' h1⟩
theorem n_z {a : Nat} (h0 : 0 < a) (ha : a < 2147483648) : ¬ nI a ≤ (0 : Int32) := fun h => by
  have h' : nI a ≤ nI 0 := h
  rw [n_le ha (by omega)] at h'; omega
theorem n_lt3 {a : Nat} (h : a < 3) : nI a < (3 : Int32) := by
  have h' : nI a < nI 3 := by rw [n_lt] <;> omega
  exact h'
theorem bt_nt {x : Int64} {k : Nat} (h : k < 64) : bt (x ^^^ (-lN 1)) k = !bt x k := bt_not h
theorem bi_nt {x : Int32} {k : Nat} (h : k < 32) : bi (x ^^^ (-nI 1)) k = !bi x k := bi_not h
theorem Ok.jn {α β : Type} {x : α} {F : α → Option β} {Q : β → Prop} (P : α → Prop) (hx : P x) (h : ∀ x, P x → Ok (F x) Q) : Ok (lb x F) Q := h x hx
theorem Ok.cpe {σ α : Type} {f : Option σ} {x : σ} {F : σ → Option α} {Q : α → Prop} (e : f = some x) (h : Ok (F x) Q) : Ok (cp f F) Q := by subst e; exact h
theorem Ok.cle {σ α : Type} {f : Option (σ × HI × HJ)} {r : σ} {I : HI} {J : HJ} {F : σ → HI → HJ → Option α} {Q : α → Prop} (e : f = some (r, I, J)) (h : Ok (F r I J) Q) : Ok (cl f F) Q := by subst e; exact h
theorem Ok.bxe {α : Type} {a N : Nat} {f : Option α} {Q : α → Prop} (h : a < N) (hN : N < 2147483648) (k : Ok f Q) : Ok (bx (nI a) N f) Q := by rw [n_bx h hN]; exact k
abbrev b1i (p : Bool) : Int32 := if p then nI 1 else nI 0
theorem Ok.it0 {α : Type} {p : Bool} {x : Int32} {f g : Option α} {Q : α → Prop} (hx : x = b1i p) (h1 : p = false → Ok f Q) (h2 : p = true → Ok g Q) : Ok (if x = 0 then f else g) Q := by
  subst hx
  cases p with
  | false => rw [if_pos (by decide)]; exact h1 rfl
  | true => rw [if_neg (by decide)]; exact h2 rfl

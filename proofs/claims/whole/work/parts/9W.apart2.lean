/-! LAYER 2: proof: the sets of members in their order -/
theorem pcP_ex {n : Nat} {p : Nat → Bool} (h : 0 < pcP n p) : ∃ i, i < n ∧ p i = true := by
  cases hf : fsS p n with
  | none => have := pcP_0 (fun k hk => fsS_none.mp hf k hk); omega
  | some s => obtain ⟨h1, h2, _⟩ := fsS_some.mp hf; exact ⟨s, h1, h2⟩
theorem pcP_two {n : Nat} {p : Nat → Bool} : 2 ≤ pcP n p ↔ ∃ i j, i ≠ j ∧ i < n ∧ j < n ∧ p i = true ∧ p j = true := by
  constructor
  · intro h
    obtain ⟨i, h1, h2⟩ := pcP_ex (show 0 < pcP n p by omega)
    have hd := pcP_del h1 h2
    obtain ⟨j, h3, h4⟩ := pcP_ex (show 0 < pcP n (fun j => p j && !decide (j = i)) by omega)
    simp only [Bool.and_eq_true, Bool.not_eq_true', decide_eq_false_iff_not] at h4
    exact ⟨i, j, fun e => h4.2 e.symm, h1, h3, h2, h4.1⟩
  · rintro ⟨i, j, hij, h1, h2, h3, h4⟩
    have hd := pcP_del h1 h3
    have hd2 := pcP_del (p := fun k => p k && !decide (k = i)) h2 (by simp [h4]; exact fun e => hij e.symm)
    omega
theorem X12_proof_64 {cv : Nat → Int32} {N : Nat} (hN : N ≤ 2187) {I : HI} {J : HJ} (hst : F_X12_settings I J = some (nI N)) (hcv : ∀ s, s < N → I m_shownBy s = cv s) {l3 x : Int32} {kx : Int32 → Option (Int32 × HI × HJ)} {Q : Int32 × HI × HJ → Prop} (hx : ∀ b, (b = true ↔ apS cv N x) → Ok (kx (b1 b)) Q) : ∀ K k, k ≤ N → N - k < K → ∀ v, (v = true ↔ apS cv k x) → Ok (F_X12_proof_L64 l3 x I J kx K (b1 v) (nI k)) Q := by
  refine up ?_ ?_
  · intro K v hv
    rw [F_X12_proof_L64]
    exact Ok.cpe hst (Ok.t (by rw [n_le] <;> omega) (hx v hv))
  · intro K k hk ih v hv
    rw [F_X12_proof_L64]
    refine Ok.cpe hst (Ok.f (by rw [n_le] <;> omega) ?_)
    cases v with
    | false =>
      refine Ok.t rfl (hx false ⟨(fun h => by cases h), fun h => ?_⟩)
      refine hv.mpr (fun i j hij h1 h2 ⟨s, s1, s2, s3⟩ => h i j hij h1 h2 ⟨s, by omega, s2, s3⟩)
    | true =>
      have hv' := hv.mp rfl
      have hpl : pci (cv k &&& x) ≤ 32 := pcP_le 32 _
      refine Ok.f (by decide) (Ok.bxe (by omega) (by omega) ?_)
      rw [n_cl (by omega), hcv k hk, nI_1]
      refine Ok.cpe (bcNi _) (Ok.lbv ?_)
      have key : 2 ≤ pci (cv k &&& x) ↔ ∃ i j, i ≠ j ∧ bi x i = true ∧ bi x j = true ∧ bi (cv k) i = true ∧ bi (cv k) j = true := by
        show 2 ≤ pcP 32 (bi (cv k &&& x)) ↔ _
        rw [pcP_two]
        constructor
        · rintro ⟨i, j, h1, _, _, h4, h5⟩
          rw [bi_and, Bool.and_eq_true] at h4 h5
          exact ⟨i, j, h1, h4.2, h5.2, h4.1, h5.1⟩
        · rintro ⟨i, j, h1, h2, h3, h4, h5⟩
          have lt : ∀ i, bi x i = true → i < 32 := fun i h => by
            by_cases c : i < 32
            · exact c
            · rw [bi_big (by omega)] at h; cases h
          exact ⟨i, j, h1, lt i h2, lt j h3, by rw [bi_and, h4, h2]; rfl, by rw [bi_and, h5, h3]; rfl⟩
      by_cases c : 2 ≤ pci (cv k &&& x)
      · refine Ok.t (show (2 : Int32) ≤ nI (pci (cv k &&& x)) from (by rw [n_le (by omega) (by omega)]; omega : nI 2 ≤ nI (pci (cv k &&& x)))) (ih false ⟨(fun h => by cases h), fun h => ?_⟩)
        obtain ⟨i, j, h1, h2, h3, h4, h5⟩ := key.mp c
        exact absurd ⟨k, by omega, h4, h5⟩ (h i j h1 h2 h3)
      · refine Ok.f (show ¬ (2 : Int32) ≤ nI (pci (cv k &&& x)) from (by rw [n_le (by omega) (by omega)]; omega : ¬ nI 2 ≤ nI (pci (cv k &&& x)))) (ih true ⟨fun _ i j hij h1 h2 hnr => ?_, fun _ => rfl⟩)
        rcases nrP_s.mp hnr with h | ⟨h3, h4⟩
        · exact hv' i j hij h1 h2 h
        · exact c (key.mpr ⟨i, j, hij, h1, h2, h3, h4⟩)
def apB (cv : Nat → Int32) (N : Nat) (x : Int32) : Bool := (fsS (fun s => decide (2 ≤ pci (cv s &&& x))) N).isNone
theorem pci_two {a x : Int32} : 2 ≤ pci (a &&& x) ↔ ∃ i j, i ≠ j ∧ bi x i = true ∧ bi x j = true ∧ bi a i = true ∧ bi a j = true := by
  show 2 ≤ pcP 32 (bi (a &&& x)) ↔ _
  rw [pcP_two]
  constructor
  · rintro ⟨i, j, h1, _, _, h4, h5⟩
    rw [bi_and, Bool.and_eq_true] at h4 h5
    exact ⟨i, j, h1, h4.2, h5.2, h4.1, h5.1⟩
  · rintro ⟨i, j, h1, h2, h3, h4, h5⟩
    have lt : ∀ i, bi x i = true → i < 32 := fun i h => by
      by_cases c : i < 32
      · exact c
      · rw [bi_big (by omega)] at h; cases h
    exact ⟨i, j, h1, lt i h2, lt j h3, by rw [bi_and, h4, h2]; rfl, by rw [bi_and, h5, h3]; rfl⟩
theorem apB_iff {cv : Nat → Int32} {N : Nat} {x : Int32} : apB cv N x = true ↔ apS cv N x := by
  unfold apB
  rw [no_iff]
  constructor
  · rintro h i j hij h1 h2 ⟨s, s1, s2, s3⟩
    have := h s s1
    simp only [decide_eq_false_iff_not] at this
    exact this (pci_two.mpr ⟨i, j, hij, h1, h2, s2, s3⟩)
  · intro h s hs
    rw [decide_eq_false_iff_not]
    intro h2
    obtain ⟨i, j, g1, g2, g3, g4, g5⟩ := pci_two.mp h2
    exact h i j g1 g2 g3 ⟨s, hs, g4, g5⟩
/-- the best set of members below k -/
def bmS (cv : Nat → Int32) (N : Nat) : Nat → Int32
  | 0 => nI 0
  | k+1 => if pci (bmS cv N k) < pci (nI k) ∧ apB cv N (nI k) = true then nI k else bmS cv N k
theorem bi_n {k : Nat} (h : k < 4294967296) (i : Nat) : bi (nI k) i = k.testBit i := by
  show (BitVec.ofNat 32 k).getLsbD i = _
  rw [BitVec.getLsbD_ofNat]
  by_cases c : i < 32
  · simp [c]
  · have : k.testBit i = false := Nat.testBit_lt_two_pow (Nat.lt_of_lt_of_le (show k < 2 ^ 32 from h) (Nat.pow_le_pow_right (by omega) (by omega)))
    simp [c, this]
theorem bi_nm {k m i : Nat} (hm : m ≤ 12) (h : k < 2 ^ m) (hi : m ≤ i) : bi (nI k) i = false := by
  have h12 : (2 : Nat) ^ m ≤ 2 ^ 12 := Nat.pow_le_pow_right (by omega) hm
  rw [bi_n (by omega)]
  exact Nat.testBit_lt_two_pow (Nat.lt_of_lt_of_le h (Nat.pow_le_pow_right (by omega) hi))
theorem shl_m {m : Nat} (hm : m ≤ 12) : oshl (nI 1) (nI m) = nI (2 ^ m) := by
  have h : ∀ j : Fin 13, oshl (nI 1) (nI j.val) = nI (2 ^ j.val) := by decide
  exact h ⟨m, by omega⟩
theorem X4_most {cv : Nat → Int32} {N m : Nat} (hm : m ≤ 12) {I : HI} {J : HJ} (hlm : I x_parting f_Parting_lamps = nI m) (hn : nrQ cv m (fun _ => N) I) {kx : Int32 → Option (Int64 × HI × HJ)} {Q : Int64 × HI × HJ → Prop} (hx : Ok (kx (bmS cv N (2 ^ m))) Q) : ∀ K k, k ≤ 2 ^ m → 2 ^ m - k < K → Ok (F_X4_mostApart_L10 I J kx K (nI (pci (bmS cv N k))) (bmS cv N k) (nI k)) Q := by
  have h12 : (2 : Nat) ^ m ≤ 2 ^ 12 := Nat.pow_le_pow_right (by omega) hm
  refine up ?_ ?_
  · intro K
    rw [F_X4_mostApart_L10, hlm, show (1 : Int32) = nI 1 from rfl, shl_m hm]
    exact Ok.t (by rw [n_le] <;> omega) hx
  · intro K k hk ih
    have p1 : pci (bmS cv N k) ≤ 32 := pcP_le 32 _
    have p2 : pci (nI k) ≤ 32 := pcP_le 32 _
    rw [F_X4_mostApart_L10, hlm, nI_1, show (1 : Int32) = nI 1 from rfl, shl_m hm]
    refine Ok.f (by rw [n_le] <;> omega) (Ok.cpe (bcNi _) (Ok.lbv ?_))
    rw [show bmS cv N (k + 1) = (if pci (bmS cv N k) < pci (nI k) ∧ apB cv N (nI k) = true then nI k else bmS cv N k) from rfl] at ih
    by_cases c : pci (bmS cv N k) < pci (nI k)
    · refine Ok.f (by rw [n_le] <;> omega) ?_
      obtain ⟨r, hr, b, hb1, hb2⟩ := X4_isApart (J := J) hm hlm hn (x := nI k) (fun i hi => bi_nm hm hk hi)
      refine Ok.cpe hr ?_
      rw [hb1]
      cases b with
      | false =>
        have : ¬ apB cv N (nI k) = true := fun h => by have := hb2.mpr (apB_iff.mp h); cases this
        rw [if_neg (fun h => this h.2)] at ih
        exact Ok.t rfl ih
      | true =>
        rw [if_pos ⟨c, apB_iff.mpr (hb2.mp rfl)⟩] at ih
        exact Ok.f (by decide) (Ok.cpe (bcNi _) ih)
    · rw [if_neg (fun h => c h.1)] at ih
      exact Ok.t (by rw [n_le] <;> omega) ih
theorem X12_most {cv : Nat → Int32} {N m : Nat} (hN : N ≤ 2187) (hm : m ≤ 12) {I : HI} {J : HJ} (hst : F_X12_settings I J = some (nI N)) (hcv : ∀ s, s < N → I m_shownBy s = cv s) (hlm : I m_self f_Model_members = nI m) {kx : Int32 → Option (Int32 × HI × HJ)} {Q : Int32 × HI × HJ → Prop} (hx : Ok (kx (bmS cv N (2 ^ m))) Q) : ∀ K k, k ≤ 2 ^ m → 2 ^ m - k < K → Ok (F_X12_proof_L32 I J kx K (bmS cv N k) (nI k)) Q := by
  have h12 : (2 : Nat) ^ m ≤ 2 ^ 12 := Nat.pow_le_pow_right (by omega) hm
  refine up ?_ ?_
  · intro K
    rw [F_X12_proof_L32, hlm, show (1 : Int32) = nI 1 from rfl, shl_m hm]
    exact Ok.t (by rw [n_le] <;> omega) hx
  · intro K k hk ih
    have p1 : pci (bmS cv N k) ≤ 32 := pcP_le 32 _
    have p2 : pci (nI k) ≤ 32 := pcP_le 32 _
    rw [F_X12_proof_L32, hlm, nI_1]
    refine Ok.f (show ¬ oshl (nI 1) (nI m) ≤ nI k by rw [shl_m hm, n_le] <;> omega) (Ok.cpe (bcNi _) (Ok.cpe (bcNi _) (Ok.lbv ?_)))
    rw [show bmS cv N (k + 1) = (if pci (bmS cv N k) < pci (nI k) ∧ apB cv N (nI k) = true then nI k else bmS cv N k) from rfl] at ih
    by_cases c : pci (bmS cv N k) < pci (nI k)
    · refine Ok.t (by rw [n_lt] <;> omega) ?_
      refine X12_proof_64 hN hst hcv (fun b hb => ?_) bgf 0 (Nat.zero_le _) (by unfold bgf; omega) true ⟨fun _ i j _ _ _ ⟨s, h, _⟩ => (by omega), fun _ => rfl⟩
      cases b with
      | false =>
        have : ¬ apB cv N (nI k) = true := fun h => by have := hb.mpr (apB_iff.mp h); cases this
        rw [if_neg (fun h => this h.2)] at ih
        exact Ok.t rfl ih
      | true =>
        rw [if_pos ⟨c, apB_iff.mpr (hb.mp rfl)⟩] at ih
        exact Ok.f (by decide) ih
    · rw [if_neg (fun h => c h.1)] at ih
      exact Ok.f (by rw [n_lt] <;> omega) ih

/-! LAYER 2: parted: by the reference -/
abbrev pmW : Pl := [(m_firstBy, none), (m_masks, none), (m_masksMany, none), (m_fewest, none), (m_turn, none), (m_self, some f_Model_turns)]
theorem pm_23 {full : Nat} (hf : full ≤ 4095) {l4 : Int32} {J : HJ} {kx : HI → Option (Int32 × HI × HJ)} {Q : Int32 × HI × HJ → Prop} (I0 : HI) (hx : ∀ I, Sm pmW I0 I → (∀ y, y ≤ full → I m_firstBy y = -1) → Ok (kx I) Q) : ∀ K k, k ≤ full + 1 → full + 1 - k < K → ∀ I, Sm pmW I0 I → (∀ y, y < k → I m_firstBy y = -1) → Ok (F_X12_findParted_L23 (nI full) l4 J kx K (nI k) I) Q := by
  refine up ?_ ?_
  · intro K I h1 h2
    rw [F_X12_findParted_L23]
    exact Ok.t (by rw [n_lt] <;> omega) (hx I h1 (fun y hy => h2 y (by omega)))
  · intro K k hk ih I h1 h2
    rw [F_X12_findParted_L23]
    refine Ok.f (by rw [n_lt] <;> omega) (Ok.bxe (by omega) (by omega) (Ok.lbv ?_))
    rw [n_cl (by omega), nI_1]
    refine ih _ (Sm.mi rfl h1) (fun y hy => ?_)
    rw [ui_s]
    by_cases c : y = k
    · rw [if_pos c]
    · rw [if_neg c]; exact h2 y (by omega)
theorem pm_49 {cv : Nat → Int32} {N full : Nat} (hN : N ≤ 2187) (hf : full ≤ 4095) (hcl : ∀ s, s < N → ∃ y, y ≤ full ∧ cv s = nI y) {l4 : Int32} {J : HJ} {kx : HI → Option (Int32 × HI × HJ)} {Q : Int32 × HI × HJ → Prop} (I0 : HI) (hcv : ∀ s, s < N → I0 m_shownBy s = cv s) (hx : ∀ I, Sm pmW I0 I → (∀ y, y ≤ full → (I m_firstBy y = -1 ↔ ∀ s, s < N → cv s ≠ nI y)) → Ok (kx I) Q) : ∀ K s, s < K → s ≤ N → ∀ I, Sm pmW I0 I → (∀ y, y ≤ full → (I m_firstBy y = -1 ↔ ∀ s', s ≤ s' → s' < N → cv s' ≠ nI y)) → Ok (F_X12_findParted_L49 (nI full) l4 J kx K (nI s + (-1)) I) Q := by
  refine dw ?_ ?_
  · intro K _ I h1 h2
    rw [F_X12_findParted_L49]
    refine Ok.t (by decide) (hx I h1 (fun y hy => ?_))
    rw [h2 y hy]
    exact ⟨fun h s hs => h s (Nat.zero_le _) hs, fun h s _ hs => h s hs⟩
  · intro K s ih hs I h1 h2
    obtain ⟨y0, y1, y2⟩ := hcl s (by omega)
    rw [F_X12_findParted_L49, show nI (s + 1) + (-1) = nI s from n_m1 s]
    refine Ok.f (show ¬ nI s < nI 0 by rw [n_lt] <;> omega) (Ok.bxe (by omega) (by omega) ?_)
    rw [n_cl (by omega), h1 m_shownBy _ rfl, hcv s (by omega), y2]
    refine Ok.bxe (by omega) (by omega) (Ok.lbv ?_)
    rw [n_cl (by omega)]
    refine ih (by omega) _ (Sm.mi rfl h1) (fun y hy => ?_)
    rw [ui_s]
    by_cases c : y = y0
    · rw [if_pos c]
      constructor
      · intro h
        exact absurd h (fun e => (n_ne1 (a := s) (by omega)).mp e)
      · intro h
        exact absurd (by rw [y2, c]) (h s (Nat.le_refl _) (by omega))
    · rw [if_neg c, h2 y hy]
      constructor
      · intro h s' a b
        by_cases e : s' = s
        · rw [e, y2]; intro hh; rw [n_eq (by omega) (by omega)] at hh; exact c hh.symm
        · exact h s' (by omega) b
      · intro h s' a b; exact h s' (by omega) b
def imS (cv : Nat → Int32) (N y : Nat) : Bool := (fsS (fun s => decide (cv s = nI y)) N).isSome
theorem imS_iff {cv : Nat → Int32} {N y : Nat} : imS cv N y = true ↔ ∃ s, s < N ∧ cv s = nI y := by
  unfold imS
  constructor
  · intro h
    obtain ⟨s, hs⟩ := Option.isSome_iff_exists.mp h
    obtain ⟨h1, h2, _⟩ := fsS_some.mp hs
    exact ⟨s, h1, of_decide_eq_true h2⟩
  · rintro ⟨s, h1, h2⟩
    cases hf : fsS (fun s => decide (cv s = nI y)) N with
    | none => have := fsS_none.mp hf s h1; rw [decide_eq_true h2] at this; cases this
    | some _ => rfl
theorem pcP_or (a q : Nat → Bool) : ∀ k, pcP k (fun y => a y || q y) ≤ pcP k a + pcP k q
  | 0 => Nat.zero_le _
  | k+1 => by
    have ih := pcP_or a q k
    rw [pcP_s, pcP_s, pcP_s]
    cases a k <;> cases q k <;> simp <;> omega
theorem imS_le {cv : Nat → Int32} {k : Nat} (hk : k ≤ 4096) : ∀ N, pcP k (imS cv N) ≤ N
  | 0 => by
    rw [pcP_0 (fun y _ => by
      cases h : imS cv 0 y with
      | false => rfl
      | true => obtain ⟨s, hs, _⟩ := imS_iff.mp h; exact absurd hs (Nat.not_lt_zero _))]
    exact Nat.le_refl _
  | N+1 => by
    have ih := imS_le (cv := cv) hk N
    have e : imS cv (N + 1) = fun y => imS cv N y || decide (cv N = nI y) := by
      funext y
      rw [Bool.eq_iff_iff, Bool.or_eq_true, imS_iff, imS_iff, decide_eq_true_iff]
      constructor
      · rintro ⟨s, h1, h2⟩
        by_cases c : s = N
        · rw [c] at h2; exact Or.inr h2
        · exact Or.inl ⟨s, by omega, h2⟩
      · rintro (⟨s, h1, h2⟩ | h)
        · exact ⟨s, by omega, h2⟩
        · exact ⟨N, by omega, h⟩
    rw [e]
    have h1 := pcP_or (imS cv N) (fun y => decide (cv N = nI y)) k
    have h2 : pcP k (fun y => decide (cv N = nI y)) ≤ 1 := by
      by_cases c : 2 ≤ pcP k (fun y => decide (cv N = nI y))
      · obtain ⟨i, j, hij, h1, h2, h3, h4⟩ := pcP_two.mp c
        have e3 := of_decide_eq_true h3
        have e4 := of_decide_eq_true h4
        rw [e3, n_eq (by omega) (by omega)] at e4
        exact absurd e4 hij
      · omega
    omega
def mkL (cv : Nat → Int32) (N i k : Nat) : List Nat := (List.range k).filter (fun y => imS cv N y && y.testBit i)
theorem mkL_s (cv : Nat → Int32) (N i k : Nat) : mkL cv N i (k + 1) = if (imS cv N k && k.testBit i) then mkL cv N i k ++ [k] else mkL cv N i k := by
  unfold mkL
  rw [List.range_succ, List.filter_append]
  cases h : (imS cv N k && k.testBit i) <;> simp [h]
theorem mkL_le {cv : Nat → Int32} {N i k : Nat} (hk : k ≤ 4096) : (mkL cv N i k).length ≤ N := by
  have h1 : (mkL cv N i k).length = pcP k (fun y => imS cv N y && y.testBit i) := by
    unfold mkL pcP; rw [List.countP_eq_length_filter]
  have h2 : pcP k (fun y => imS cv N y && y.testBit i) ≤ pcP k (imS cv N) := by
    unfold pcP
    exact List.countP_mono_left (fun j _ hb => by rw [Bool.and_eq_true] at hb; exact hb.1)
  have h3 := imS_le (cv := cv) hk N
  omega
def mkkQ (cv : Nat → Int32) (N i k : Nat) (I : HI) : Prop := I m_masksMany i = nI (mkL cv N i k).length ∧ ∀ j, j < (mkL cv N i k).length → I m_masks (2187 * i + j) = nI ((mkL cv N i k).getD j 0)
theorem pm_104 {cv : Nat → Int32} {N full i : Nat} (hN : N ≤ 2187) (hf : full ≤ 4095) (hi : i < 12) {l4 : Int32} {J : HJ} {kx : HI → Option (Int32 × HI × HJ)} {Q : Int32 × HI × HJ → Prop} (I0 : HI) (hx : ∀ I, Sm pmW I0 I → (∀ y, y ≤ full → (I m_firstBy y = -1 ↔ ∀ s, s < N → cv s ≠ nI y)) → I m_fewest 0 = I0 m_fewest 0 → (∀ i', i' ≤ i → mkkQ cv N i' (full + 1) I) → Ok (kx I) Q) : ∀ K k, k ≤ full + 1 → full + 1 - k < K → ∀ I, Sm pmW I0 I → (∀ y, y ≤ full → (I m_firstBy y = -1 ↔ ∀ s, s < N → cv s ≠ nI y)) → I m_fewest 0 = I0 m_fewest 0 → (∀ i', i' < i → mkkQ cv N i' (full + 1) I) → mkkQ cv N i k I → Ok (F_X12_findParted_L104 (nI full) l4 (nI i) J kx K (nI k) I) Q := by
  refine up ?_ ?_
  · intro K I h1 h2 h3 h4 h5
    rw [F_X12_findParted_L104]
    refine Ok.t (by rw [n_lt] <;> omega) (hx I h1 h2 h3 (fun i' hi' => ?_))
    by_cases c : i' = i
    · rw [c]; exact h5
    · exact h4 i' (by omega)
  · intro K k hk ih I h1 h2 h3 h4 h5
    have hle := mkL_le (cv := cv) (N := N) (i := i) (k := k + 1) (by omega)
    have him : I m_firstBy k = -1 ↔ imS cv N k = false := by
      rw [h2 k (by omega)]
      constructor
      · intro h
        cases hb : imS cv N k with
        | false => rfl
        | true => obtain ⟨s, s1, s2⟩ := imS_iff.mp hb; exact absurd s2 (h s s1)
      · intro h s hs e
        rw [imS_iff.mpr ⟨s, hs, e⟩] at h; cases h
    rw [F_X12_findParted_L104]
    refine Ok.f (by rw [n_lt] <;> omega) (Ok.bxe (by omega) (by omega) (Ok.lbv ?_))
    rw [n_cl (by omega), nI_1]
    unfold mkkQ at ih
    rw [mkL_s] at ih
    rw [mkL_s] at hle
    refine Ok.ite (fun c => ?_) (fun c => ?_)
    · rw [him.mp c] at ih
      exact ih I h1 h2 h3 h4 h5
    · have hm : imS cv N k = true := by
        cases hb : imS cv N k with
        | true => rfl
        | false => exact absurd (him.mpr hb) c
      refine Ok.cpe (t_hasI (by omega)) ?_
      rw [bi_n (by omega)]
      rw [hm] at ih hle
      cases hb : k.testBit i with
      | false => rw [hb] at ih; exact Ok.t rfl (ih I h1 h2 h3 h4 h5)
      | true =>
        rw [hb] at ih hle
        simp only [Bool.and_true, if_true, List.length_append, List.length_singleton] at ih hle
        refine Ok.f (by decide) (Ok.bxe (by omega) (by omega) ?_)
        rw [n_cl (by omega), h5.1, show (2187 : Int32) = nI 2187 from rfl, n_mul, nI_add]
        refine Ok.bxe (by omega) (by omega) (Ok.lbv (Ok.bxe (by omega) (by omega) (Ok.bxe (by omega) (by omega) (Ok.lbv ?_))))
        rw [n_cl (by omega), ui_c (show m_masksMany ≠ m_masks by decide), h5.1, nI_1]
        refine ih _ (Sm.mi rfl (Sm.mi rfl h1)) (fun y hy => ?_) ?_ (fun i' hi' => ?_) ⟨by rw [ui_r], fun j hj => ?_⟩
        · rw [ui_c (by decide), ui_c (by decide)]; exact h2 y hy
        · rw [ui_c (by decide), ui_c (by decide)]; exact h3
        · have hle' := mkL_le (cv := cv) (N := N) (i := i') (k := full + 1) (by omega)
          refine ⟨by rw [ui_j (by omega), ui_c (by decide)]; exact (h4 i' hi').1, fun j hj => ?_⟩
          rw [ui_c (by decide), ui_j (by omega)]; exact (h4 i' hi').2 j hj
        · rw [ui_c (by decide), ui_s, getD_ap1]
          by_cases e : j = (mkL cv N i k).length
          · rw [if_pos (by omega), if_pos e]
          · rw [if_neg (by omega), if_neg e]; exact h5.2 j (by omega)
theorem pm_84 {cv : Nat → Int32} {N full m : Nat} (hN : N ≤ 2187) (hf : full ≤ 4095) (hm : m ≤ 12) {l4 : Int32} {J : HJ} {kx : HI → Option (Int32 × HI × HJ)} {Q : Int32 × HI × HJ → Prop} (I0 : HI) (hlm : I0 m_self f_Model_members = nI m) (hx : ∀ I, Sm pmW I0 I → I m_fewest 0 = I0 m_fewest 0 → (∀ i', i' < m → mkkQ cv N i' (full + 1) I) → Ok (kx I) Q) : ∀ K i, i ≤ m → m - i < K → ∀ I, Sm pmW I0 I → (∀ y, y ≤ full → (I m_firstBy y = -1 ↔ ∀ s, s < N → cv s ≠ nI y)) → I m_fewest 0 = I0 m_fewest 0 → (∀ i', i' < i → mkkQ cv N i' (full + 1) I) → Ok (F_X12_findParted_L84 (nI full) l4 J kx K (nI i) I) Q := by
  refine up ?_ ?_
  · intro K I h1 h2 h3 h4
    rw [F_X12_findParted_L84]
    exact Ok.t (by rw [h1 _ _ rfl, hlm, n_le] <;> omega) (hx I h1 h3 h4)
  · intro K i hi ih I h1 h2 h3 h4
    rw [F_X12_findParted_L84]
    refine Ok.f (by rw [h1 _ _ rfl, hlm, n_le] <;> omega) (Ok.bxe (by omega) (by omega) (Ok.lbv ?_))
    rw [n_cl (by omega), nI_1]
    have e0 : ∀ i, mkL cv N i 1 = [] := fun i => by
      rw [mkL_s]; simp [mkL]
    refine pm_104 hN hf (show i < 12 by omega) I0 (fun I2 a1 a2 a3 a4 => ih I2 a1 a2 a3 (fun i' hi' => a4 i' (by omega))) bgf 1 (by omega) (by unfold bgf; omega) _ (Sm.mi rfl h1) (fun y hy => ?_) ?_ (fun i' hi' => ?_) ⟨by rw [ui_r, e0]; rfl, fun j hj => by rw [e0] at hj; cases hj⟩
    · rw [ui_c (by decide)]; exact h2 y hy
    · rw [ui_c (by decide)]; exact h3
    · refine ⟨by rw [ui_j (by omega)]; exact (h4 i' hi').1, fun j hj => ?_⟩
      rw [ui_c (by decide)]; exact (h4 i' hi').2 j hj
def fmQ (cv : Nat → Int32) (N k : Nat) (I : HI) : Prop := ∀ y, y < k → ∃ v, I m_fewest y = nI v ∧ lsT cv N 1000000 (nI y) v
theorem pm_208 {cv : Nat → Int32} {N m x i : Nat} (hN : N ≤ 2187) (hm : m ≤ 12) (hlow : ∀ s, lowQ m (cv s)) (hx : x < 2 ^ m) (hi : i < m) (hb : bi (nI x) i = true) {l3 l4 : Int32} {J : HJ} {kx : HI → Option (Int32 × HI × HJ)} {Q : Int32 × HI × HJ → Prop} (I0 : HI) (hmk : mkkQ cv N i (2 ^ m) I0) (hf0 : fmQ cv N x I0) (hk : ∀ I, Sm [(m_fewest, none)] I0 I → fmQ cv N (x + 1) I → Ok (kx I) Q) : ∀ K j, j ≤ (mkL cv N i (2 ^ m)).length → (mkL cv N i (2 ^ m)).length - j < K → ∀ v I, Sm [(m_fewest, none)] I0 I → (∀ y, y ≠ x → I m_fewest y = I0 m_fewest y) → I m_fewest x = nI v → v ≤ 1000000 → (v < 1000000 → cvr cv N v (nI x)) → (∀ j', j' < j → ∀ u, cvr cv N u (nI x &&& (nI ((mkL cv N i (2 ^ m)).getD j' 0) ^^^ (-1 : Int32))) → v ≤ u + 1) → Ok (F_X12_findParted_L208 l3 l4 (nI x) (nI i) J kx K (nI j) I) Q := by
  have h12 : (2 : Nat) ^ m ≤ 2 ^ 12 := Nat.pow_le_pow_right (by omega) hm
  have hle := mkL_le (cv := cv) (N := N) (i := i) (k := 2 ^ m) (by omega)
  refine up ?_ ?_
  · intro K v I h1 h2 h3 h4 h5 h6
    rw [F_X12_findParted_L208]
    refine Ok.bxe (by omega) (by omega) ?_
    rw [n_cl (by omega), h1 m_masksMany _ rfl, hmk.1]
    refine Ok.t (by rw [n_le] <;> omega) (hk I h1 (fun y hy => ?_))
    by_cases c : y = x
    · refine ⟨v, by rw [c]; exact h3, ?_⟩
      rw [c]
      refine lsT_fin (by omega) hb h4 h5 (fun s hs hsi u hu => ?_)
      obtain ⟨n1, n2⟩ := n_of (hlow s)
      have hmem : (cv s).toBitVec.toNat ∈ mkL cv N i (2 ^ m) := by
        unfold mkL
        rw [List.mem_filter, List.mem_range, Bool.and_eq_true, imS_iff]
        refine ⟨n1, ⟨s, hs, n2⟩, ?_⟩
        rw [← bi_n (by omega), ← n2]; exact hsi
      obtain ⟨j, j1, j2⟩ := List.getElem_of_mem hmem
      have e : nI ((mkL cv N i (2 ^ m)).getD j 0) = cv s := by
        rw [List.getD_eq_getElem?_getD, List.getElem?_eq_getElem j1]
        show nI ((mkL cv N i (2 ^ m))[j]) = cv s
        rw [j2]; exact n2.symm
      refine h6 j j1 u ?_
      rw [e]; exact hu
    · rw [h2 y c]; exact hf0 y (by omega)
  · intro K j hj ih v I h1 h2 h3 h4 h5 h6
    rw [F_X12_findParted_L208]
    refine Ok.bxe (by omega) (by omega) ?_
    rw [n_cl (by omega), h1 m_masksMany _ rfl, hmk.1]
    refine Ok.f (by rw [n_le] <;> omega) (Ok.bxe (by omega) (by omega) ?_)
    have hmj : I m_masks (2187 * i + j) = nI ((mkL cv N i (2 ^ m)).getD j 0) := by rw [h1 _ _ rfl]; exact hmk.2 j hj
    have hmem : (mkL cv N i (2 ^ m)).getD j 0 ∈ mkL cv N i (2 ^ m) := by
      rw [List.getD_eq_getElem?_getD, List.getElem?_eq_getElem hj]; exact List.getElem_mem hj
    generalize hw : (mkL cv N i (2 ^ m)).getD j 0 = w at hmj hmem
    unfold mkL at hmem
    rw [List.mem_filter, List.mem_range, Bool.and_eq_true, imS_iff] at hmem
    obtain ⟨w1, ⟨s, s1, s2⟩, w3⟩ := hmem
    rw [show (2187 : Int32) = nI 2187 from rfl, n_mul, nI_add, nI_1]
    refine Ok.bxe (by omega) (by omega) ?_
    rw [n_cl (by omega), hmj]
    have hzx : (nI x &&& (nI w ^^^ (-1 : Int32))) = nI (x &&& (nI w ^^^ (-1 : Int32)).toBitVec.toNat) := by
      apply Int32.toBitVec_inj.mp
      rw [Int32.toBitVec_and]
      apply BitVec.eq_of_toNat_eq
      show (BitVec.ofNat 32 x &&& _).toNat = (BitVec.ofNat 32 _).toNat
      rw [BitVec.toNat_and, BitVec.toNat_ofNat, BitVec.toNat_ofNat, Nat.mod_eq_of_lt (by omega), Nat.mod_eq_of_lt (Nat.lt_of_le_of_lt Nat.and_le_left (by omega))]
    have hzle : x &&& (nI w ^^^ (-1 : Int32)).toBitVec.toNat ≤ x := Nat.and_le_left
    generalize x &&& (nI w ^^^ (-1 : Int32)).toBitVec.toNat = z at hzx hzle
    have hzne : z ≠ x := by
      intro e
      rw [e] at hzx
      have : bi (nI x &&& (nI w ^^^ (-1 : Int32))) i = true := by rw [hzx]; exact hb
      rw [bi_and, bi_not (by omega), bi_n (k := w) (by omega), w3, Bool.and_eq_true] at this
      exact absurd this.2 (by decide)
    rw [hzx]
    refine Ok.bxe (by omega) (by omega) (Ok.bxe (by omega) (by omega) (Ok.lbv ?_))
    obtain ⟨vz, z1, z2⟩ := hf0 z (by omega)
    have hvz := lsT_le z2
    rw [n_cl (by omega), n_cl (by omega), h3, h2 z hzne, z1, nI_1, omin_n (by omega) (by omega)]
    refine ih (min v (vz + 1)) _ (Sm.mi rfl h1) (fun y hy => by rw [ui_j hy]; exact h2 y hy) (by rw [ui_r]) (by omega) (fun hlt => ?_) (fun j' hj' u hu => ?_)
    · by_cases e : v ≤ vz + 1
      · rw [Nat.min_eq_left e] at hlt ⊢; exact h5 hlt
      · rw [Nat.min_eq_right (by omega)] at hlt ⊢
        refine Or.inr ⟨s, s1, ?_⟩
        rw [s2, hzx]
        exact lsT_cv z2 (by omega)
    · by_cases e : j' = j
      · rw [e, hw, hzx] at hu
        have := lsT_ge z2 hu
        omega
      · have := h6 j' (by omega) u hu
        omega
theorem pm_182 {cv : Nat → Int32} {N m : Nat} (hN : N ≤ 2187) (hm : m ≤ 12) (hlow : ∀ s, lowQ m (cv s)) {l4 : Int32} {J : HJ} {kx : HI → Option (Int32 × HI × HJ)} {Q : Int32 × HI × HJ → Prop} (I0 : HI) (hk : ∀ I, Sm pmW I0 I → fmQ cv N (2 ^ m) I → Ok (kx I) Q) : ∀ K x, x ≤ 2 ^ m → 2 ^ m - x < K → 0 < x → ∀ I, Sm pmW I0 I → (∀ i', i' < m → mkkQ cv N i' (2 ^ m) I) → fmQ cv N x I → Ok (F_X12_findParted_L182 (nI (2 ^ m - 1)) l4 J kx K (nI x) I) Q := by
  have h12 : (2 : Nat) ^ m ≤ 2 ^ 12 := Nat.pow_le_pow_right (by omega) hm
  refine up ?_ ?_
  · intro K hx I h1 h2 h3
    rw [F_X12_findParted_L182]
    exact Ok.t (by rw [n_lt] <;> omega) (hk I h1 h3)
  · intro K x hx ih h0 I h1 h2 h3
    rw [F_X12_findParted_L182]
    refine Ok.f (by rw [n_lt] <;> omega) (Ok.bxe (by omega) (by omega) (Ok.lbv ?_))
    obtain ⟨i, i1, i2, i3, _⟩ := ntNi (x := nI x) (fun e => by rw [n_eq (by omega) (by omega)] at e; omega)
    have him : i < m := by
      by_cases c : i < m
      · exact c
      · rw [n_lowQ hm hx i (by omega)] at i3; cases i3
    refine Ok.cpe i2 ?_
    rw [n_cl (by omega), nI_1]
    refine pm_208 hN hm hlow hx him i3 (ui I m_fewest x (1000000 : Int32)) ?_ (fun y hy => by rw [ui_j (by omega)]; exact h3 y hy) (fun I2 a1 a2 => ?_) bgf 0 (Nat.zero_le _) (by have := mkL_le (cv := cv) (N := N) (i := i) (k := 2 ^ m) (by omega); unfold bgf; omega) 1000000 _ Sm.rf (fun _ _ => rfl) (by rw [ui_r]; rfl) (Nat.le_refl _) (fun h => absurd h (Nat.lt_irrefl _)) (fun j' h => absurd h (Nat.not_lt_zero _))
    · exact ⟨by rw [ui_c (by decide)]; exact (h2 i him).1, fun j hj => by rw [ui_c (by decide)]; exact (h2 i him).2 j hj⟩
    · refine ih (by omega) I2 (Sm.tr (by decide) (Sm.mi rfl h1) a1) (fun i' hi' => ⟨?_, fun j hj => ?_⟩) a2
      · rw [a1 _ _ rfl, ui_c (by decide)]; exact (h2 i' hi').1
      · rw [a1 _ _ rfl, ui_c (by decide)]; exact (h2 i' hi').2 j hj
theorem lsT_big {cv : Nat → Int32} {N v : Nat} {x : Int32} (h : lsT cv N 1000000 x v) : (v = lsV cv N x ∧ v < 99) ∨ (v = 1000000 ∧ lsV cv N x = 99) := by
  rcases h with ⟨a1, a2, a3⟩ | ⟨a1, a2⟩
  · left
    have hp : pci x ≤ 32 := pcP_le 32 _
    have h32 := cvr_pc 32 hp a1
    have hv : v ≤ 32 := by
      by_cases c : v ≤ 32
      · exact c
      · exact absurd h32 (a3 32 (by omega))
    exact ⟨lsV_e (Or.inl ⟨a1, by omega, a3⟩), by omega⟩
  · exact Or.inr ⟨a1, (lsV_e (Or.inr ⟨rfl, a2⟩)).symm⟩
def tnM (L : List Nat) (I : HI) : Prop := I m_self f_Model_turns = nI L.length ∧ ∀ k, k < L.length → I m_turn k = nI (L.getD k 0)
theorem pm_300 {cv : Nat → Int32} {N m k0 : Nat} (hN : N ≤ 2187) (hm : m ≤ 12) (hk : k0 < 2 ^ m) (hT : lsV cv N (nI k0) < 99) {J : HJ} (I0 : HI) (hcv : ∀ s, s < N → I0 m_shownBy s = cv s) (hf : fmQ cv N (2 ^ m) I0) : ∀ K s, s ≤ N → N - s < K → ∀ I, Sm [(m_turn, none), (m_self, some f_Model_turns)] I0 I → tnM (chS (lsV cv N) cv (nI k0) s).2 I → Ok (F_X12_findParted_L300 (nI N) J K (chS (lsV cv N) cv (nI k0) s).1 (nI s) I) (fun q => q.1 = 1 ∧ q.2.2 = J ∧ Sm [(m_turn, none), (m_self, some f_Model_turns)] I0 q.2.1 ∧ tnM (chS (lsV cv N) cv (nI k0) N).2 q.2.1) := by
  have h12 : (2 : Nat) ^ m ≤ 2 ^ 12 := Nat.pow_le_pow_right (by omega) hm
  have hT12 : lsV cv N (nI k0) ≤ 12 := by
    have := lsV_pc hT
    have := pci_low hm (n_lowQ hm hk)
    omega
  refine up ?_ ?_
  · intro K I h1 h2
    rw [F_X12_findParted_L300]
    exact Ok.t (by rw [n_le] <;> omega) (Ok.mk ⟨rfl, rfl, h1, h2⟩)
  · intro K s hs ih I h1 h2
    have inv := chS_inv (lsV cv N) cv (nI k0) s
    obtain ⟨y, y1, y2⟩ := chS_low (f := lsV cv N) (cv := cv) hm hk s
    rw [F_X12_findParted_L300]
    refine Ok.f (by rw [n_le] <;> omega) (Ok.ite (fun c => ?_) (fun c => ?_))
    · have hst := chS_stay (f := lsV cv N) (cv := cv) (x0 := nI k0) (s := s) (by rw [show (chS (lsV cv N) cv (nI k0) s).1 = nI 0 from c]; exact lsV_0) (N - s)
      rw [show s + (N - s) = N by omega] at hst
      exact Ok.mk ⟨rfl, rfl, h1, by rw [hst]; exact h2⟩
    · have hy0 : lsV cv N (chS (lsV cv N) cv (nI k0) s).1 ≠ 0 := fun e => c (lsV_z e)
      obtain ⟨z, z1, z2⟩ := n_andL hm y2 (cv s ^^^ (-1 : Int32))
      have hzz : (chS (lsV cv N) cv (nI k0) s).1 &&& (cv s ^^^ (-1 : Int32)) = nI z := by rw [y1, z1]
      rw [chS_s, hzz] at ih
      refine Ok.bxe (by omega) (by omega) ?_
      have hc : I m_shownBy s = cv s := by rw [h1 _ _ rfl]; exact hcv s hs
      rw [n_cl (by omega), hc, hzz]
      refine Ok.bxe (by omega) (by omega) ?_
      rw [y1] at ih inv hy0 ⊢
      refine Ok.bxe (by omega) (by omega) (Ok.lbv ?_)
      obtain ⟨v1, a1, a2⟩ := hf z z2
      obtain ⟨v2, b1, b2⟩ := hf y y2
      rw [n_cl (by omega), n_cl (by omega), h1 m_fewest _ rfl, h1 m_fewest _ rfl, a1, b1, nI_1]
      have hv2 : v2 = lsV cv N (nI y) := by
        rcases lsT_big b2 with h | h <;> omega
      have hmono : lsV cv N (nI z) ≤ lsV cv N (nI y) := lsT_mono (fun j hj => by rw [← z1, bi_and, Bool.and_eq_true] at hj; exact hj.1) (lsV_t cv N (nI y)) (lsV_t cv N (nI z))
      have hv1 : v1 = lsV cv N (nI z) := by
        rcases lsT_big a2 with h | h <;> omega
      rw [show (1 : Int32) = nI 1 from rfl, n_sub (by omega)]
      by_cases e : lsV cv N (nI z) + 1 = lsV cv N (nI y)
      · rw [if_pos e] at ih
        refine Ok.t (by rw [n_eq] <;> omega) ?_
        rw [h2.1]
        refine Ok.bxe (by omega) (by omega) (Ok.lbv (Ok.lbv (Ok.bxe (by omega) (by omega) (Ok.lbv ?_))))
        have e1 : Sm [(m_turn, none), (m_self, some f_Model_turns)] I0 (ui (ui I m_turn (chS (lsV cv N) cv (nI k0) s).2.length (nI s)) m_self f_Model_turns (nI ((chS (lsV cv N) cv (nI k0) s).2.length + 1))) := Sm.mi rfl (Sm.mi rfl h1)
        rw [n_cl (by omega), ui_c (show m_self ≠ m_turn by decide), h2.1, nI_add, e1 m_shownBy _ rfl, hcv s hs, show nI y &&& (cv s ^^^ -nI 1) = nI z from z1]
        refine ih _ e1 ⟨by rw [ui_r]; simp, fun k hk' => ?_⟩
        simp only [List.length_append, List.length_singleton] at hk'
        rw [ui_c (by decide), ui_s, getD_ap1]
        by_cases g : k = (chS (lsV cv N) cv (nI k0) s).2.length
        · rw [if_pos g, if_pos g]
        · rw [if_neg g, if_neg g]; exact h2.2 k (by omega)
      · rw [if_neg e] at ih
        refine Ok.f (by rw [n_eq] <;> omega) ?_
        rw [y1] at ih
        exact ih I h1 h2

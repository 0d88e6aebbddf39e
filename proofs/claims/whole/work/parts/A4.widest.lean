/-! LAYER 2: parted: the widest covers -/
def sbI (x y : Int32) : Prop := ∀ i, bi x i = true → bi y i = true
theorem bi_lt {x : Int32} {i : Nat} (h : bi x i = true) : i < 32 := by
  by_cases c : i < 32
  · exact c
  · rw [bi_big (by omega)] at h; cases h
theorem sbI_iff {x y : Int32} : x &&& (y ^^^ (-1 : Int32)) = 0 ↔ sbI x y := by
  constructor
  · intro h i hi
    have h' : x &&& (y ^^^ (-1 : Int32)) = nI 0 := h
    have := bi_z i
    rw [← h', bi_and, bi_not (bi_lt hi), hi] at this
    simpa using this
  · intro h
    apply bi_ext
    intro j hj
    show _ = bi (nI 0) j
    rw [bi_z, bi_and, bi_not hj]
    cases hb : bi x j with
    | false => rfl
    | true => rw [h j hb]; rfl
def lowQ (m : Nat) (x : Int32) : Prop := ∀ i, m ≤ i → bi x i = false
theorem n_of {m : Nat} {x : Int32} (h : lowQ m x) : x.toBitVec.toNat < 2 ^ m ∧ x = nI x.toBitVec.toNat := by
  refine ⟨Nat.lt_pow_two_of_testBit _ (fun i hi => h i hi), Int32.toBitVec_inj.mp ?_⟩
  show x.toBitVec = BitVec.ofNat 32 x.toBitVec.toNat
  simp
theorem n_lowQ {m k : Nat} (hm : m ≤ 12) (h : k < 2 ^ m) : lowQ m (nI k) := fun _ hi => bi_nm hm h hi
theorem n_andL {m x : Nat} (hm : m ≤ 12) (h : x < 2 ^ m) (z : Int32) : ∃ y, nI x &&& z = nI y ∧ y < 2 ^ m := by
  have hl : lowQ m (nI x &&& z) := fun i hi => by rw [bi_and, n_lowQ hm h i hi]; rfl
  exact ⟨_, (n_of hl).2, (n_of hl).1⟩
def antQ (W : List Int32) : Prop := W.Pairwise (fun a b => ¬ sbI a b ∧ ¬ sbI b a)
theorem ant_le {W : List Int32} (h : antQ W) (hl : ∀ w, w ∈ W → lowQ 12 w) : W.length ≤ 924 := by
  have := sperner (l := W.map (fun w => w.toBitVec.toNat)) (fun x hx => by
    obtain ⟨w, hw, rfl⟩ := List.mem_map.mp hx
    exact (n_of (hl w hw)).1) (by
    rw [List.pairwise_map]
    exact List.Pairwise.imp (fun {a b} h => h) h)
  rwa [List.length_map] at this
def wdQ (W : List Int32) (I : HI) : Prop := I x_parting f_Parting_widestSize = nI W.length ∧ ∀ k, k < W.length → I x_parting_widest k = W.getD k 0
theorem getD_m {W : List Int32} {k : Nat} (h : k < W.length) : W.getD k 0 ∈ W := by
  rw [List.getD_eq_getElem?_getD, List.getElem?_eq_getElem h]; exact List.getElem_mem h
theorem m_getD {W : List Int32} {w : Int32} (h : w ∈ W) : ∃ k, k < W.length ∧ W.getD k 0 = w := by
  obtain ⟨k, hk, e⟩ := List.getElem_of_mem h
  exact ⟨k, hk, by rw [List.getD_eq_getElem?_getD, List.getElem?_eq_getElem hk]; exact e⟩
theorem getD_ap {P R : List Int32} {k : Nat} (h : k < P.length) : (P ++ R).getD k 0 = P.getD k 0 := by
  rw [List.getD_eq_getElem?_getD, List.getD_eq_getElem?_getD, List.getElem?_append_left h]
theorem getD_at {P R : List Int32} {w : Int32} : (P ++ w :: R).getD P.length 0 = w := by
  rw [List.getD_eq_getElem?_getD]; simp
abbrev wdW : Pl := [(x_parting_widest, none), (x_parting, some f_Parting_widestSize)]
def kpB (x w : Int32) : Bool := !decide (w &&& (x ^^^ (-1 : Int32)) = 0)
theorem X4_addWidest {W : List Int32} {x : Int32} (hx : lowQ 12 x) {I : HI} {J : HJ} (hw : wdQ W I) (ha : antQ W) (hl : ∀ w, w ∈ W → lowQ 12 w) : Ok (F_X4_addWidest x I J) (fun q => q.2.2 = J ∧ Sm wdW I q.2.1 ∧ ∃ W', wdQ W' q.2.1 ∧ antQ W' ∧ (∀ w, w ∈ W' → w ∈ W ∨ w = x) ∧ (∀ w, w ∈ W → ∃ w', w' ∈ W' ∧ sbI w w') ∧ ∃ w', w' ∈ W' ∧ sbI x w') := by
  have h924 := ant_le ha hl
  unfold F_X4_addWidest
  have l1 : ∀ (kx : Option (Unit × HI × HJ)) (Q : Unit × HI × HJ → Prop), (∀ w, w ∈ W → sbI x w → Q ((), I, J)) → ((∀ w, w ∈ W → ¬ sbI x w) → Ok kx Q) → ∀ K k, k ≤ W.length → W.length - k < K → (∀ k', k' < k → ¬ sbI x (W.getD k' 0)) → Ok (F_X4_addWidest_L2 x I J kx K (nI k)) Q := by
    intro kx Q h1 h2
    refine up ?_ ?_
    · intro K h
      rw [F_X4_addWidest_L2]
      refine Ok.t (by rw [hw.1, n_le] <;> omega) (h2 (fun w hm hs => ?_))
      obtain ⟨k, hk, e⟩ := m_getD hm
      exact h k hk (by rw [e]; exact hs)
    · intro K k hk ih h
      rw [F_X4_addWidest_L2]
      refine Ok.f (by rw [hw.1, n_le] <;> omega) (Ok.bxe (by omega) (by omega) ?_)
      rw [n_cl (by omega), hw.2 k hk, nI_1]
      refine Ok.ite (fun c => Ok.mk (h1 _ (getD_m hk) (sbI_iff.mp c))) (fun c => ih (fun k' hk' => ?_))
      by_cases e : k' = k
      · rw [e]; exact fun hs => c (sbI_iff.mpr hs)
      · exact h k' (by omega)
  refine l1 _ _ (fun w hm hs => ⟨rfl, Sm.rf, W, hw, ha, fun w h => Or.inl h, fun w h => ⟨w, h, fun _ h => h⟩, w, hm, hs⟩) (fun hno => ?_) bgf 0 (Nat.zero_le _) (by unfold bgf; omega) (fun k' h => by omega)
  have hU : ∀ w, w ∈ W.filter (kpB x) → w ∈ W ∧ ¬ sbI w x := by
    intro w hm
    obtain ⟨h1, h2⟩ := List.mem_filter.mp hm
    refine ⟨h1, fun hs => ?_⟩
    unfold kpB at h2
    rw [decide_eq_true (sbI_iff.mpr hs)] at h2
    cases h2
  have hA : antQ (W.filter (kpB x) ++ [x]) := by
    refine List.pairwise_append.mpr ⟨List.Pairwise.filter _ ha, List.pairwise_singleton .., fun a hm b hb => ?_⟩
    rw [List.mem_singleton] at hb
    subst hb
    exact ⟨(hU a hm).2, hno a (hU a hm).1⟩
  have hAl : ∀ w, w ∈ W.filter (kpB x) ++ [x] → lowQ 12 w := by
    intro w hm
    rcases List.mem_append.mp hm with h | h
    · exact hl w (hU w h).1
    · rw [List.mem_singleton] at h; rw [h]; exact hx
  have h924' := ant_le hA hAl
  rw [List.length_append, List.length_singleton] at h924'
  have fin : ∀ I', Sm [(x_parting_widest, none)] I I' → (∀ j, j < (W.filter (kpB x)).length → I' x_parting_widest j = (W.filter (kpB x)).getD j 0) → Ok (lb (fun (y10 : Int32) (I11 : HI) => lb (ui I11 x_parting f_Parting_widestSize y10) fun I13 => some ((), I13, J)) fun j12 => if (924 : Int32) ≤ nI (W.filter (kpB x)).length then j12 (nI (W.filter (kpB x)).length) I' else bx (nI (W.filter (kpB x)).length) 924 <| lb (ui I' x_parting_widest (Int32.toNatClampNeg (nI (W.filter (kpB x)).length)) x) fun I14 => j12 (nI (W.filter (kpB x)).length + 1) I14) (fun q => q.2.2 = J ∧ Sm wdW I q.2.1 ∧ ∃ W', wdQ W' q.2.1 ∧ antQ W' ∧ (∀ w, w ∈ W' → w ∈ W ∨ w = x) ∧ (∀ w, w ∈ W → ∃ w', w' ∈ W' ∧ sbI w w') ∧ ∃ w', w' ∈ W' ∧ sbI x w') := by
    intro I' s1 s2
    refine Ok.lbv (Ok.f (show ¬ (924 : Int32) ≤ nI (W.filter (kpB x)).length from (by rw [n_le (by omega) (by omega)]; omega : ¬ nI 924 ≤ nI (W.filter (kpB x)).length)) (Ok.bxe (by omega) (by omega) (Ok.lbv (Ok.lbv ?_))))
    rw [n_cl (by omega), nI_1]
    have t1 : Sm wdW I I' := Sm.tr (by decide) Sm.rf s1
    refine Ok.mk ⟨rfl, Sm.mi rfl (Sm.mi rfl t1), W.filter (kpB x) ++ [x], ⟨by dsimp only; rw [ui_r, List.length_append]; rfl, fun k hk => ?_⟩, hA, fun w hm => ?_, fun w hm => ?_, x, List.mem_append.mpr (Or.inr (List.mem_singleton.mpr rfl)), fun _ h => h⟩
    · rw [List.length_append, List.length_singleton] at hk
      dsimp only
      rw [ui_c (by decide), ui_s]
      by_cases c : k = (W.filter (kpB x)).length
      · rw [if_pos c, c, getD_at]
      · rw [if_neg c, getD_ap (by omega)]; exact s2 k (by omega)
    · rcases List.mem_append.mp hm with h | h
      · exact Or.inl (hU w h).1
      · exact Or.inr (List.mem_singleton.mp h)
    · by_cases c : w &&& (x ^^^ (-1 : Int32)) = 0
      · exact ⟨x, List.mem_append.mpr (Or.inr (List.mem_singleton.mpr rfl)), sbI_iff.mp c⟩
      · exact ⟨w, List.mem_append.mpr (Or.inl (List.mem_filter.mpr ⟨hm, by unfold kpB; rw [decide_eq_false c]; rfl⟩)), fun _ h => h⟩
  have l2 : ∀ (kx : Int32 → HI → Option (Unit × HI × HJ)) (Q : Unit × HI × HJ → Prop), (∀ I', Sm [(x_parting_widest, none)] I I' → (∀ j, j < (W.filter (kpB x)).length → I' x_parting_widest j = (W.filter (kpB x)).getD j 0) → Ok (kx (nI (W.filter (kpB x)).length) I') Q) → ∀ (R P : List Int32) (K : Nat), W = P ++ R → R.length < K → ∀ I', Sm [(x_parting_widest, none)] I I' → (∀ j, j < (P.filter (kpB x)).length → I' x_parting_widest j = (P.filter (kpB x)).getD j 0) → (∀ j, P.length ≤ j → j < W.length → I' x_parting_widest j = W.getD j 0) → Ok (F_X4_addWidest_L34 x J kx K (nI (P.filter (kpB x)).length) (nI P.length) I') Q := by
    intro kx Q hkx R
    induction R with
    | nil =>
      intro P K hP hK I' s1 s2 s3
      obtain ⟨K, rfl⟩ : ∃ K', K = K' + 1 := ⟨K - 1, by simp at hK; omega⟩
      rw [List.append_nil] at hP
      rw [F_X4_addWidest_L34]
      rw [← hP]
      rw [← hP] at s2
      exact Ok.t (by rw [s1 _ _ rfl, hw.1, n_le] <;> omega) (hkx I' s1 s2)
    | cons w R ih =>
      intro P K hP hK I' s1 s2 s3
      obtain ⟨K, rfl⟩ : ∃ K', K = K' + 1 := ⟨K - 1, by simp at hK; omega⟩
      have hlen : P.length < W.length := by rw [hP]; simp
      have hfl : (P.filter (kpB x)).length ≤ P.length := List.length_filter_le ..
      have hP' : W = (P ++ [w]) ++ R := by rw [hP]; simp
      have hK' : R.length < K := by simp at hK; omega
      have hgw : I' x_parting_widest P.length = w := by rw [s3 _ (Nat.le_refl _) hlen, hP, getD_at]
      rw [F_X4_addWidest_L34]
      refine Ok.f (by rw [s1 _ _ rfl, hw.1, n_le] <;> omega) (Ok.bxe (by omega) (by omega) (Ok.lbv ?_))
      rw [n_cl (by omega), hgw, nI_1]
      have ih' := ih (P ++ [w]) K hP' hK'
      rw [List.filter_append, List.length_append, List.length_append, List.length_singleton] at ih'
      refine Ok.ite (fun c => ?_) (fun c => ?_)
      · have hk : kpB x w = false := by unfold kpB; rw [decide_eq_true c]; rfl
        rw [List.filter_cons_of_neg (by rw [hk]; decide), List.filter_nil, List.append_nil] at ih'
        exact ih' I' s1 s2 (fun j hj => s3 j (by omega))
      · have hk : kpB x w = true := by unfold kpB; rw [decide_eq_false c]; rfl
        rw [List.filter_cons_of_pos hk, List.filter_nil, List.length_singleton] at ih'
        refine Ok.bxe (by omega) (by omega) (Ok.bxe (by omega) (by omega) (Ok.lbv ?_))
        rw [n_cl (by omega), nI_1]
        refine ih' _ (Sm.mi rfl s1) (fun j hj => ?_) (fun j hj hj2 => ?_)
        · rw [ui_s]
          by_cases d : j = (P.filter (kpB x)).length
          · rw [if_pos d, d, getD_at]
          · rw [if_neg d, getD_ap (by omega)]; exact s2 j (by omega)
        · rw [ui_s, if_neg (by omega)]; exact s3 j (by omega) hj2
  exact l2 _ _ fin W [] bgf rfl (by unfold bgf; omega) I Sm.rf (fun j hj => by cases hj) (fun j _ hj => hw.2 j hj)
/-- W holds the widest of the first i covers -/
def WQ (cv : Nat → Int32) (N i : Nat) (W : List Int32) (I : HI) : Prop := wdQ W I ∧ antQ W ∧ (∀ w, w ∈ W → ∃ s, s < N ∧ cv s = w) ∧ ∀ s, s < i → cv s ≠ nI 0 → ∃ w, w ∈ W ∧ sbI (cv s) w
theorem X4_findWidest {cv : Nat → Int32} {N : Nat} (hN : N ≤ 2187) (hlow : ∀ s, lowQ 12 (cv s)) (I : HI) (J : HJ) (hsz : I x_table f_Table_size = nI N) (hcv : ∀ s, s < N → I x_parting_cover s = cv s) : Ok (F_X4_findWidest I J) (fun q => q.2.2 = J ∧ Sm wdW I q.2.1 ∧ ∃ W, WQ cv N N W q.2.1) := by
  unfold F_X4_findWidest
  refine Ok.lbv ?_
  have l1 : ∀ K s, s ≤ N → N - s < K → ∀ I', Sm wdW I I' → (∃ W, WQ cv N s W I') → Ok (F_X4_findWidest_L7 K (nI s) I' J) (fun q => q.2.2 = J ∧ Sm wdW I q.2.1 ∧ ∃ W, WQ cv N N W q.2.1) := by
    refine up ?_ ?_
    · intro K I' s1 h
      rw [F_X4_findWidest_L7]
      exact Ok.t (by rw [s1 _ _ rfl, hsz, n_le] <;> omega) (Ok.mk ⟨rfl, s1, h⟩)
    · intro K s hs ih I' s1 ⟨W, w1, w2, w3, w4⟩
      rw [F_X4_findWidest_L7]
      refine Ok.f (by rw [s1 _ _ rfl, hsz, n_le] <;> omega) (Ok.bxe (by omega) (by omega) (Ok.lbv ?_))
      have hc : I' x_parting_cover s = cv s := by rw [s1 _ _ rfl]; exact hcv s hs
      rw [n_cl (by omega), hc, nI_1]
      refine Ok.ite (fun c => ih I' s1 ⟨W, w1, w2, w3, fun s' hs' hne => ?_⟩) (fun c => Ok.bxe (by omega) (by omega) ?_)
      · by_cases e : s' = s
        · rw [e] at hne; exact absurd c hne
        · exact w4 s' (by omega) hne
      · refine Ok.call (X4_addWidest (hlow s) (J := J) w1 w2 (fun w hm => by obtain ⟨s2, _, e⟩ := w3 w hm; rw [← e]; exact hlow s2)) (fun r I2 J2 _ hP => ?_)
        obtain ⟨p1, p2, W', p3, p4, p5, p6, p7⟩ := hP
        simp only at p1 p2 p3
        subst p1
        refine ih I2 (Sm.tr (by decide) s1 p2) ⟨W', p3, p4, fun w hm => ?_, fun s' hs' hne => ?_⟩
        · rcases p5 w hm with h | h
          · exact w3 w h
          · exact ⟨s, hs, h.symm⟩
        · by_cases e : s' = s
          · rw [e]; exact p7
          · obtain ⟨w, m1, m2⟩ := w4 s' (by omega) hne
            obtain ⟨w', m3, m4⟩ := p6 w m1
            exact ⟨w', m3, fun i hi => m4 i (m2 i hi)⟩
  exact l1 bgf 0 (Nat.zero_le _) (by unfold bgf; omega) _ (Sm.mi rfl Sm.rf) ⟨[], ⟨by rw [ui_r]; rfl, fun k hk => by cases hk⟩, List.Pairwise.nil, (fun w h => by cases h), fun s hs => absurd hs (Nat.not_lt_zero _)⟩

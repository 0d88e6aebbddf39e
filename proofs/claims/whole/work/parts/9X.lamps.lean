/-! LAYER 2: proof: from members to lamps -/
def lmS (C : List Nat) (x : Int32) (k : Nat) : Int64 := (List.range k).foldl (fun y i => if bi x i then y ||| olshl (lN 1) (nI (C.getD i 0)) else y) (lN 0)
theorem lmS_s (C : List Nat) (x : Int32) (k : Nat) : lmS C x (k + 1) = if bi x k then lmS C x k ||| olshl (lN 1) (nI (C.getD k 0)) else lmS C x k := by
  unfold lmS; rw [List.range_succ, List.foldl_append]; rfl
theorem lmS_b {C : List Nat} (h60 : ∀ k, k < C.length → C.getD k 0 < 60) {x : Int32} {k : Nat} (hk : k ≤ C.length) (j : Nat) : bt (lmS C x k) j = true ↔ ∃ i, i < k ∧ bi x i = true ∧ C.getD i 0 = j := by
  induction k with
  | zero => unfold lmS; simp [bt_z]
  | succ k ih =>
    have ih := ih (by omega)
    have := h60 k (by omega)
    rw [lmS_s]
    by_cases c : bi x k = true
    · rw [if_pos c, bt_or, t_one (by omega), Bool.or_eq_true, ih, decide_eq_true_eq]
      constructor
      · rintro (⟨i, h1, h2, h3⟩ | h)
        · exact ⟨i, by omega, h2, h3⟩
        · exact ⟨k, by omega, c, h.symm⟩
      · rintro ⟨i, h1, h2, h3⟩
        by_cases d : i = k
        · rw [d] at h3; exact Or.inr h3.symm
        · exact Or.inl ⟨i, by omega, h2, h3⟩
    · rw [if_neg c, ih]
      constructor
      · rintro ⟨i, h1, h2, h3⟩; exact ⟨i, by omega, h2, h3⟩
      · rintro ⟨i, h1, h2, h3⟩
        by_cases d : i = k
        · rw [d] at h2; exact absurd h2 c
        · exact ⟨i, by omega, h2, h3⟩
theorem lsP_inj {p : Int64} {n i j : Nat} (hi : i < (lsP p n).length) (hj : j < (lsP p n).length) (h : (lsP p n).getD i 0 = (lsP p n).getD j 0) : i = j := by
  have hn : (lsP p n).Pairwise (· < ·) := List.Pairwise.filter _ List.pairwise_lt_range
  rw [List.getD_eq_getElem?_getD, List.getD_eq_getElem?_getD, List.getElem?_eq_getElem hi, List.getElem?_eq_getElem hj] at h
  have h' : (lsP p n)[i] = (lsP p n)[j] := h
  rcases Nat.lt_trichotomy i j with c | c | c
  · have := List.pairwise_iff_getElem.mp hn i j hi hj c; omega
  · exact c
  · have := List.pairwise_iff_getElem.mp hn j i hj hi c; omega
theorem lmS_pc {C : List Nat} (h60 : ∀ k, k < C.length → C.getD k 0 < 60) (hin : ∀ i j, i < C.length → j < C.length → C.getD i 0 = C.getD j 0 → i = j) {x : Int32} {k : Nat} (hk : k ≤ C.length) : pc (lmS C x k) = pcP k (bi x) := by
  induction k with
  | zero => unfold lmS pc; exact pcP_0 (fun k _ => bt_z k)
  | succ k ih =>
    have ih := ih (by omega)
    have hlt := h60 k (by omega)
    rw [lmS_s, pcP_s]
    by_cases c : bi x k = true
    · rw [if_pos c, if_pos c, ← ih]
      unfold pc
      refine pcP_one (s := C.getD k 0) (by omega) ?_ ?_ (fun j hj hne => ?_)
      · cases hb : bt (lmS C x k) (C.getD k 0) with
        | false => rfl
        | true =>
          obtain ⟨i, h1, _, h3⟩ := (lmS_b h60 (by omega) _).mp hb
          have := hin i k (by omega) (by omega) h3
          omega
      · rw [bt_or, t_one (by omega)]; simp
      · rw [bt_or, t_one (by omega), decide_eq_false hne, Bool.or_false]
    · rw [if_neg c, if_neg c, ih]; rfl
theorem X4_lamps {C : List Nat} (hC : C.length ≤ 12) (h60 : ∀ k, k < C.length → C.getD k 0 < 60) {x : Int32} {I : HI} {J : HJ} (hm : mbX C I) : ∀ K k, k ≤ C.length → C.length - k < K → F_X4_mostApart_L54 x I J K (lmS C x k) (nI k) = some (lmS C x C.length, I, J) := by
  refine up ?_ ?_
  · intro K
    rw [F_X4_mostApart_L54, hm.1, if_pos (by rw [n_le] <;> omega)]
  · intro K k hk ih
    have := h60 k hk
    rw [F_X4_mostApart_L54, hm.1, if_neg (by rw [n_le] <;> omega), n_bx (by omega) (by omega), n_cl (by omega), hm.2 k hk, nI_1, show (1 : Int32) = nI 1 from rfl, t_iu (by omega)]
    simp only [lb]
    rw [lmS_s] at ih
    cases hb : bi x k with
    | true => rw [hb] at ih; exact ih
    | false =>
      rw [hb] at ih
      have hz : olshl (Int32.toInt64 (if false = true then nI 1 else nI 0)) (nI (C.getD k 0)) = lN 0 := by
        apply bt_ext
        intro j hj
        rw [show bt (olshl (Int32.toInt64 (if false = true then nI 1 else nI 0)) (nI (C.getD k 0))) j = _ from bt_shl (by omega), show Int32.toInt64 (if false = true then nI 1 else nI 0) = lN 0 from rfl, bt_z, bt_z]; simp
      rw [hz, or_zL]; exact ih
theorem X12_lamps {C : List Nat} (hC : C.length ≤ 12) {x : Int32} {I : HI} {J : HJ} (hm : mbM C I) {kx : Int64 → Option (Int32 × HI × HJ)} {Q : Int32 × HI × HJ → Prop} (hx : Ok (kx (lmS C x C.length)) Q) : ∀ K k, k ≤ C.length → C.length - k < K → Ok (F_X12_proof_L128 x I J kx K (lmS C x k) (nI k)) Q := by
  refine up ?_ ?_
  · intro K
    rw [F_X12_proof_L128, hm.1]
    exact Ok.t (by rw [n_le] <;> omega) hx
  · intro K k hk ih
    rw [F_X12_proof_L128, hm.1]
    refine Ok.f (by rw [n_le] <;> omega) (Ok.cpe (t_hasI (by omega)) (Ok.lbv ?_))
    rw [nI_1]
    rw [lmS_s] at ih
    cases hb : bi x k with
    | true =>
      rw [hb] at ih
      refine Ok.f (by decide) (Ok.bxe (by omega) (by omega) (Ok.lbv ?_))
      rw [n_cl (by omega), hm.2 k hk]; exact ih
    | false =>
      rw [hb] at ih
      refine Ok.t (by rfl) (Ok.lbv ?_)
      rw [show (0 : Int64) = lN 0 from rfl, or_zL]; exact ih

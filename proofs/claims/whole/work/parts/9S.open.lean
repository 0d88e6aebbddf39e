/-! LAYER 2: parting, opened -/
def mskI (n : Nat) (f : Nat → Bool) : Int32 := (List.range n).foldl (fun x k => if f k then x ||| oshl (nI 1) (nI k) else x) (nI 0)
theorem mskI_s (n : Nat) (f : Nat → Bool) : mskI (n + 1) f = if f n then mskI n f ||| oshl (nI 1) (nI n) else mskI n f := by
  unfold mskI; rw [List.range_succ, List.foldl_append]; rfl
theorem mskI_b {n : Nat} (hn : n ≤ 32) (f : Nat → Bool) (k : Nat) : bi (mskI n f) k = (decide (k < n) && f k) := by
  induction n with
  | zero => unfold mskI; simp [bi_z]
  | succ n ih =>
    rw [mskI_s]
    have ih := ih (by omega)
    by_cases c : f n = true
    · rw [if_pos c, bi_or, ih, show bi (oshl (nI 1) (nI n)) k = decide (k = n) from bi_one (by omega)]
      by_cases d : k = n
      · subst d; simp [c]
      · have : decide (k < n + 1) = decide (k < n) := by simp; omega
        rw [this]; simp [d]
    · rw [if_neg c, ih]
      by_cases d : k = n
      · subst d; simp at c; simp [c]
      · have : decide (k < n + 1) = decide (k < n) := by simp; omega
        rw [this]
def lsP (p : Int64) (k : Nat) : List Nat := (List.range k).filter (bt p)
theorem lsP_s (p : Int64) (k : Nat) : lsP p (k + 1) = if bt p k then lsP p k ++ [k] else lsP p k := by
  unfold lsP
  rw [List.range_succ, List.filter_append]
  cases h : bt p k <;> simp [h]
theorem lsP_len (p : Int64) (k : Nat) : (lsP p k).length = pcP k (bt p) := by
  unfold lsP pcP; rw [List.countP_eq_length_filter]
theorem lsP_add (p : Int64) (k d : Nat) : ∃ t, lsP p (k + d) = lsP p k ++ t := by
  induction d with
  | zero => exact ⟨[], by simp⟩
  | succ d ih =>
    obtain ⟨t, ht⟩ := ih
    rw [← Nat.add_assoc, lsP_s, ht]
    split
    · exact ⟨t ++ [k + d], by simp⟩
    · exact ⟨t, rfl⟩
theorem lsP_end (p : Int64) {k n : Nat} (h : k ≤ n) (hl : (lsP p n).length ≤ (lsP p k).length) : lsP p n = lsP p k := by
  obtain ⟨t, ht⟩ := lsP_add p k (n - k)
  rw [show k + (n - k) = n by omega] at ht
  rw [ht, List.length_append] at hl
  have : t = [] := List.length_eq_zero_iff.mp (by omega)
  rw [ht, this, List.append_nil]
theorem lsP_ok {p : Int64} {L n : Nat} (h : okLp L p) (hn : L ≤ n) : lsP p n = lsP p L := by
  refine lsP_end p hn ?_
  rw [lsP_len, lsP_len, pc_gap hn (fun j h1 _ => h j h1)]
  exact Nat.le_refl _
theorem lsP_lt {p : Int64} {n k : Nat} (h : k < (lsP p n).length) : (lsP p n).getD k 0 < n := by
  have hm : (lsP p n).getD k 0 ∈ lsP p n := by
    rw [List.getD_eq_getElem?_getD, List.getElem?_eq_getElem h]; exact List.getElem_mem h
  unfold lsP at hm ⊢
  exact List.mem_range.mp (List.mem_filter.mp hm).1
theorem getD_ap1 {C : List Nat} {x k : Nat} : (C ++ [x]).getD k 0 = if k = C.length then x else C.getD k 0 := by
  rw [List.getD_eq_getElem?_getD, List.getD_eq_getElem?_getD]
  by_cases c : k = C.length
  · subst c; simp
  · rw [if_neg c]
    by_cases d : k < C.length
    · rw [List.getElem?_append_left d]
    · rw [List.getElem?_eq_none (by simp; omega), List.getElem?_eq_none (by omega)]
def mbX (C : List Nat) (I : HI) : Prop := I x_parting f_Parting_lamps = nI C.length ∧ ∀ k, k < C.length → I x_parting_lampAt k = nI (C.getD k 0)
def mbM (C : List Nat) (I : HI) : Prop := I m_self f_Model_members = nI C.length ∧ ∀ k, k < C.length → I m_member k = nI (C.getD k 0)
def cvI (B : Bd) (p : Int64) (s : Nat) : Int32 := if isT B p s then mskI (lsP p 60).length (fun i => bt (gS B 0 s) ((lsP p 60).getD i 0)) else nI 0
theorem X4_numbered {C : List Nat} (hC : C.length ≤ 12) (h60 : ∀ k, k < C.length → C.getD k 0 < 60) (v : Int64) {I : HI} {J : HJ} (h : mbX C I) : F_X4_numbered v I J = some (mskI C.length (fun i => bt v (C.getD i 0))) := by
  unfold F_X4_numbered
  have hl : ∀ K k, k ≤ C.length → C.length - k < K → F_X4_numbered_L5 v I J K (mskI k (fun i => bt v (C.getD i 0))) (nI k) = some (mskI C.length (fun i => bt v (C.getD i 0))) := by
    refine up ?_ ?_
    · intro K
      rw [F_X4_numbered_L5, h.1, if_pos (by rw [n_le] <;> omega)]
    · intro K k hk ih
      have := h60 k hk
      rw [F_X4_numbered_L5, h.1, if_neg (by rw [n_le] <;> omega)]
      rw [n_bx (by omega) (by omega), n_cl (by omega), h.2 k hk, show (1 : Int64) = lN 1 from rfl, t_u (by omega), nI_1]
      rw [mskI_s] at ih
      simp only [lb]
      cases hb : bt v (C.getD k 0) with
      | true => rw [hb] at ih; exact ih
      | false =>
        rw [hb] at ih
        have e : mskI k (fun i => bt v (C.getD i 0)) ||| oshl (Int64.toInt32 (if false = true then lN 1 else lN 0)) (nI k) = mskI k (fun i => bt v (C.getD i 0)) := by
          have hz : oshl (Int64.toInt32 (if false = true then lN 1 else lN 0)) (nI k) = nI 0 := by
            apply bi_ext
            intro j hj
            rw [show bi (oshl (Int64.toInt32 (if false = true then lN 1 else lN 0)) (nI k)) j = _ from bi_shl (by omega), show Int64.toInt32 (if false = true then lN 1 else lN 0) = nI 0 from rfl, bi_z, bi_z]; simp
          rw [hz]; exact Int32.or_zero
        rw [e]; exact ih
  exact hl bgf 0 (Nat.zero_le _) (by unfold bgf; omega)

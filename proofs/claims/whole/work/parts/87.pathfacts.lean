/-! LAYER 2: no lamp comes twice on a path; how many paths; the best one -/
theorem wk_nd {B : Bd} {e : Nat → Option (Nat × Nat)} {hi lo : Nat → Bool} {o : Nat → Nat} (hE : EO B e hi lo o) : ∀ n w s p, p.length + n ≤ 3 → p.Nodup → (∀ k, k ∈ p → ∃ u v, e k = some (u, v) ∧ u ≠ w) → (p.length ≤ 1 → ∀ k, k ∈ p → ∃ u v, e k = some (u, v) ∧ hi u = true) → (p.length = 0 → hi w = true) → ∀ q, q ∈ wk B e hi lo n w s p → q.1.Nodup := by
  intro n
  induction n with
  | zero => intro w s p _ _ _ _ _ q hq; simp [wk] at hq
  | succ n ih =>
    intro w s p h3 hnd hfr hh hw q hq
    rw [wk_s, List.mem_flatMap] at hq
    obtain ⟨l, hl, hq⟩ := hq
    rw [List.mem_range] at hl
    unfold stW at hq
    cases he : e l with
    | none => rw [he] at hq; simp at hq
    | some uv =>
      obtain ⟨u, v⟩ := uv
      rw [he] at hq
      simp only at hq
      obtain ⟨_, hv, huv⟩ := hE.1 l u v hl he
      split at hq
      · rename_i c
        obtain ⟨c1, c2, _⟩ := c
        subst c1
        have hnd' : (p ++ [l]).Nodup := by
          rw [List.nodup_append]
          refine ⟨hnd, by simp, fun a ha b hb => ?_⟩
          simp at hb
          subst hb
          intro hab
          subst hab
          obtain ⟨u', v', e1, e2⟩ := hfr a ha
          rw [he] at e1
          simp at e1
          exact e2 e1.1.symm
        split at hq
        · simp only [List.mem_singleton] at hq
          subst hq
          exact hnd'
        · cases n with
          | zero => simp [wk] at hq
          | succ n =>
            have hl1 : (p ++ [l]).length = p.length + 1 := by simp
            refine ih v (s + bV B l) (p ++ [l]) (by omega) hnd' (fun k hk => ?_) (fun h1 k hk => ?_) (fun h0 => by omega) q hq
            · rw [List.mem_append] at hk
              rcases hk with hk | hk
              · obtain ⟨u', v', e1, e2⟩ := hh (by omega) k hk
                exact ⟨u', v', e1, fun h => by rw [h, c2] at e2; cases e2⟩
              · simp at hk; subst hk
                exact ⟨u, v, he, huv⟩
            · rw [List.mem_append] at hk
              rcases hk with hk | hk
              · have : p.length = 0 := by omega
                rw [List.length_eq_zero_iff] at this
                subst this; simp at hk
              · simp at hk; subst hk
                exact ⟨u, v, he, hw (by omega)⟩
      · simp at hq
theorem ptF_nd {B : Bd} (hB : OkB B) {f : Nat} (hf : f < nF B) {h l : Nat → Bool} (hd : okS h l) : ∀ q, q ∈ ptF B f h l → q.2.1.Nodup := by
  intro q hq
  cases hc : cfl (ftK (bW B) f) (ftA (bW B) f) (ftB (bW B) f) h l with
  | true => rw [ptF_c hc] at hq; simp at hq
  | false =>
    rw [ptF_n hc] at hq
    have hE := EO_f hB hf hd hc
    obtain ⟨w, hw, hhi, hq⟩ := paS_mem hq
    obtain ⟨r, hr, rfl⟩ := List.mem_map.mp hq
    exact wk_nd hE _ w 0 [] (by have := hB.2.2.2.2.2.2.1; simpa using this) (by simp) (by simp) (by simp) (fun _ => hhi) r hr
theorem ptF_len {B : Bd} (hB : OkB B) (f : Nat) (h l : Nat → Bool) : (ptF B f h l).length ≤ 2160000 := by
  cases hc : cfl (ftK (bW B) f) (ftA (bW B) f) (ftB (bW B) f) h l with
  | true => rw [ptF_c hc]; simp
  | false =>
    rw [ptF_n hc]
    unfold paS
    refine Nat.le_trans (fm_len _ 216000 _ ?_) ?_
    · intro w _
      split
      · rw [List.length_map]
        refine Nat.le_trans (wk_len hB _ _ _ _ _ _ _) ?_
        have h3 := hB.2.2.2.2.2.2.1
        exact Nat.le_trans (Nat.pow_le_pow_right (by decide) h3) (by decide)
      · simp
    · rw [List.length_range]; have := Nat.mul_le_mul_right 216000 hB.2.1; omega
theorem ct_ps (ps : List Pa) (h : ∀ q, q ∈ ps → q.2.1.Nodup) (k : Nat) : ctT ps k = psT k ps := by
  induction ps with
  | nil => rfl
  | cons q ps ih =>
    have e1 : ctT (q :: ps) k = q.2.1.count k + ctT ps k := by simp [ctT]
    have e2 : psT k (q :: ps) = psT k ps + (if q.2.1.contains k then 1 else 0) := by simp [psT, List.countP_cons]
    rw [e1, e2, ih (fun q hq => h q (List.mem_cons_of_mem _ hq))]
    have hn := h q (List.mem_cons_self ..)
    cases hc : q.2.1.contains k with
    | false =>
      have : q.2.1.count k = 0 := by
        rw [List.count_eq_zero]; intro hm; rw [List.contains_iff_mem.mpr hm] at hc; cases hc
      rw [this]; simp
    | true =>
      have hm := List.contains_iff_mem.mp hc
      have h1 := List.nodup_iff_count.mp hn k
      have h2 : 0 < q.2.1.count k := List.count_pos_iff.mpr hm
      rw [if_pos rfl]; omega
theorem bs_mx (a : Nat) (ps : List Pa) : (bsT a ps).1 = mxT ps a := by
  unfold bsT mxT
  have : ∀ (m : Nat × List Nat), (ps.foldl (bs1 a) m).1 = ps.foldl (mx1 a) m.1 := by
    induction ps with
    | nil => intro m; rfl
    | cons q ps ih =>
      intro m
      rw [List.foldl_cons, List.foldl_cons, ih]
      congr 1
      unfold bs1 mx1 btr
      cases q.2.1.contains a with
      | false => simp
      | true =>
        simp only [Bool.true_and, if_true]
        by_cases c : q.2.2.2 = m.1
        · rw [if_pos c, c, Nat.max_self]
          split <;> split <;> rfl
        · rw [if_neg c]
          by_cases d : m.1 < q.2.2.2
          · rw [if_pos (by simp [d])]; simp only; omega
          · rw [if_neg (by simp [d])]; omega
  exact this (0, [])
theorem mx_ps (ps : List Pa) (h : ∀ q, q ∈ ps → 0 < q.2.2.2) (a : Nat) : mxT ps a = 0 ↔ psT a ps = 0 := by
  unfold mxT
  have : ∀ m, ps.foldl (mx1 a) m = 0 ↔ (m = 0 ∧ psT a ps = 0) := by
    induction ps with
    | nil => intro m; simp [psT]
    | cons q ps ih =>
      intro m
      have e2 : psT a (q :: ps) = psT a ps + (if q.2.1.contains a then 1 else 0) := by simp [psT, List.countP_cons]
      rw [List.foldl_cons, ih (fun q hq => h q (List.mem_cons_of_mem _ hq)), e2]
      have hq := h q (List.mem_cons_self ..)
      unfold mx1
      cases q.2.1.contains a with
      | false => simp
      | true => simp only [if_true]; omega
  rw [this 0]; simp
theorem ps_len (a : Nat) (ps : List Pa) : psT a ps ≤ ps.length := List.countP_le_length

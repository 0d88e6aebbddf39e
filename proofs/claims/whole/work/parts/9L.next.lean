/-! LAYER 2: next, the class's groups -/
def cntG (gl : Nat → Int64) (i : Nat) (v : Int64) : Nat := pcP i (fun j => decide (gl j = v))
theorem cntG_s (gl : Nat → Int64) (i : Nat) (v : Int64) : cntG gl (i + 1) v = cntG gl i v + (if gl i = v then 1 else 0) := by
  unfold cntG; rw [pcP_s]; simp
theorem cntG_le (gl : Nat → Int64) (i : Nat) (v : Int64) : cntG gl i v ≤ i := pcP_le _ _
theorem cntG_mo (gl : Nat → Int64) {i j : Nat} (h : i ≤ j) (v : Int64) : cntG gl i v ≤ cntG gl j v := pc_mono h
def mxG (gl : Nat → Int64) : Nat → Nat
  | 0 => 0
  | i+1 => max (mxG gl i) (cntG gl (i + 1) (gl i))
theorem mxG_le (gl : Nat → Int64) (i : Nat) : mxG gl i ≤ i := by
  induction i with
  | zero => exact Nat.le_refl _
  | succ i ih => have := cntG_le gl (i + 1) (gl i); show max _ _ ≤ _; omega
theorem mxG_mo (gl : Nat → Int64) {i j : Nat} (h : i ≤ j) : mxG gl i ≤ mxG gl j := by
  induction j with
  | zero => have : i = 0 := by omega
            rw [this]; exact Nat.le_refl _
  | succ j ih =>
    by_cases c : i = j + 1
    · rw [c]; exact Nat.le_refl _
    · have := ih (by omega)
      show _ ≤ max _ _; omega
theorem cnt_mx (gl : Nat → Int64) (v : Int64) (i : Nat) : cntG gl i v ≤ mxG gl i := by
  induction i with
  | zero => exact Nat.le_refl _
  | succ i ih =>
    rw [cntG_s]
    by_cases c : gl i = v
    · rw [if_pos c]
      have : cntG gl (i + 1) (gl i) = cntG gl i v + 1 := by rw [cntG_s, if_pos rfl, c]
      show _ ≤ max _ _; omega
    · rw [if_neg c]; show _ ≤ max _ _; omega
theorem mx_pos (gl : Nat → Int64) {m : Nat} (h : 0 < m) : 1 ≤ mxG gl m := by
  have h1 : mxG gl 1 = 1 := by
    show max 0 (cntG gl 1 (gl 0)) = 1
    rw [cntG_s, if_pos rfl]; show max 0 (0 + 1) = 1; omega
  have := mxG_mo gl (show 1 ≤ m by omega)
  omega
/-- the class's groups hold what came -/
def grQ (gl : Nat → Int64) (i : Nat) (I : HI) (J : HJ) : Prop := ∃ n, n ≤ i ∧ I x_suspects f_Suspects_groups = nI n ∧ (∀ k, k < n → I x_suspects_groupSize k = nI (cntG gl i (J x_suspects_groupGlow k))) ∧ (∀ k k', k < n → k' < n → J x_suspects_groupGlow k = J x_suspects_groupGlow k' → k = k') ∧ (∀ j, j < i → ∃ k, k < n ∧ J x_suspects_groupGlow k = gl j)
theorem grQ.keep {gl : Nat → Int64} {i : Nat} {I I' : HI} {J J' : HJ} (h : grQ gl i I J) (a : Ag [(x_suspects, some f_Suspects_groups), (x_suspects_groupSize, none)] I I') (b : Ag [(x_suspects_groupGlow, none)] J J') : grQ gl i I' J' := by
  obtain ⟨n, h1, h2, h3, h4, h5⟩ := h
  refine ⟨n, h1, by rw [a _ _ rfl]; exact h2, fun k hk => by rw [a _ _ rfl, b _ _ rfl]; exact h3 k hk, fun k k' hk hk' => by rw [b _ _ rfl, b _ _ rfl]; exact h4 k k' hk hk', fun j hj => ?_⟩
  obtain ⟨k, k1, k2⟩ := h5 j hj
  exact ⟨k, k1, by rw [b _ _ rfl]; exact k2⟩
theorem X7_join {gl : Nat → Int64} {i : Nat} (hi : i < 116) (I : HI) (J : HJ) (h : grQ gl i I J) : Ok (F_X7_joinGroup (gl i) I J) (fun q => q.1 = nI (cntG gl (i + 1) (gl i)) ∧ grQ gl (i + 1) q.2.1 q.2.2) := by
  obtain ⟨n, h1, h2, h3, h4, h5⟩ := h
  unfold F_X7_joinGroup
  have hl : ∀ (kx : Int32 → Option (Int32 × HI × HJ)) (kn : Option (Int32 × HI × HJ)) (Q : Int32 × HI × HJ → Prop), (∀ k, k < n → J x_suspects_groupGlow k = gl i → Ok (kx (nI k)) Q) → ((∀ k, k < n → J x_suspects_groupGlow k ≠ gl i) → Ok kn Q) → ∀ K k, k ≤ n → n - k < K → (∀ k', k' < k → J x_suspects_groupGlow k' ≠ gl i) → Ok (F_X7_joinGroup_L2 (gl i) I J kx kn K (nI k)) Q := by
    intro kx kn Q hx hn
    refine up ?_ ?_
    · intro K hd
      rw [F_X7_joinGroup_L2]
      exact Ok.t (by rw [h2, n_le] <;> omega) (hn hd)
    · intro K k hk ih hd
      rw [F_X7_joinGroup_L2]
      refine Ok.f (by rw [h2, n_le] <;> omega) (Ok.bxe (by omega) (by omega) ?_)
      rw [n_cl (by omega), nI_1]
      by_cases e : J x_suspects_groupGlow k = gl i
      · exact Ok.t (lc0.mpr e) (hx k hk e)
      · refine Ok.f (fun h0 => e (lc0.mp h0)) (ih (fun k' hk' => ?_))
        by_cases c : k' = k
        · rw [c]; exact e
        · exact hd k' (by omega)
  refine hl _ _ _ (fun k hk he => ?_) (fun hno => ?_) bgf 0 (Nat.zero_le _) (by unfold bgf; omega) (fun k' hk' => by omega)
  · refine Ok.bxe (by omega) (by omega) (Ok.bxe (by omega) (by omega) (Ok.lbv (Ok.bxe (by omega) (by omega) (Ok.mk ⟨?_, n, by omega, ?_, fun k' hk' => ?_, h4, fun j hj => ?_⟩)))) <;> dsimp only
    · rw [n_cl (by omega), ui_r, h3 k hk, he, cntG_s, if_pos rfl, nI_1]
    · rw [ui_c (by decide)]; exact h2
    · rw [n_cl (by omega), ui_s]
      by_cases c : k' = k
      · rw [if_pos c, c, h3 k hk, he, cntG_s, if_pos rfl, nI_1]
      · rw [if_neg c, h3 k' hk', cntG_s, if_neg]; · rfl
        intro hh
        exact c (h4 k' k hk' hk (by rw [← hh, he]))
    · by_cases c : j = i
      · exact ⟨k, hk, by rw [c]; exact he⟩
      · exact h5 j (by omega)
  · have hz : cntG gl i (gl i) = 0 := by
      unfold cntG
      refine pcP_0 (fun j hj => ?_)
      obtain ⟨k, k1, k2⟩ := h5 j hj
      simp only [decide_eq_false_iff_not]
      intro hh
      exact hno k k1 (by rw [k2, hh])
    rw [h2]
    refine Ok.f (show ¬ (116 : Int32) ≤ nI n from (by rw [n_le (by omega) (by omega)]; omega : ¬ nI 116 ≤ nI n)) (Ok.bxe (by omega) (by omega) (Ok.lbv (Ok.bxe (by omega) (by omega) (Ok.lbv (Ok.lbv (Ok.mk ⟨?_, n + 1, by omega, ?_, fun k hk => ?_, fun k k' hk hk' => ?_, fun j hj => ?_⟩)))))) <;> dsimp only
    · rw [cntG_s, if_pos rfl, hz]; rfl
    · rw [ui_r, ui_c (by decide), h2, nI_1]
    · rw [n_cl (by omega), ui_c (by decide), ui_s, uj_s]
      by_cases c : k = n
      · rw [if_pos c, if_pos c, cntG_s, if_pos rfl, hz]; rfl
      · rw [if_neg c, if_neg c, h3 k (by omega), cntG_s, if_neg]; · rfl
        intro hh
        exact hno k (by omega) hh.symm
    · rw [n_cl (by omega), uj_s, uj_s]
      by_cases c : k = n
      · by_cases c' : k' = n
        · intro _; omega
        · rw [if_pos c, if_neg c']; intro hh; exact absurd hh.symm (hno k' (by omega))
      · by_cases c' : k' = n
        · rw [if_neg c, if_pos c']; intro hh; exact absurd hh (hno k (by omega))
        · rw [if_neg c, if_neg c']; exact h4 k k' (by omega) (by omega)
    · rw [n_cl (by omega)]
      by_cases c : j = i
      · exact ⟨n, by omega, by rw [uj_r, c]⟩
      · obtain ⟨k, k1, k2⟩ := h5 j (by omega)
        exact ⟨k, by omega, by rw [uj_j (by omega)]; exact k2⟩

/-! LAYER 2: next, the reference -/
theorem X12_next_60 {N i : Nat} (hN : N ≤ 2187) (hi : i < 116) {I : HI} (J0 : HJ) {kx : HJ → Option (Int32 × HI × HJ)} {Q : Int32 × HI × HJ → Prop} (hx : ∀ J, Sm [(m_glowAll, none)] J0 J → (∀ s, s < N → J m_glowAll (116 * s + i) = J0 m_glow s) → (∀ s i', i' < 116 → i' ≠ i → J m_glowAll (116 * s + i') = J0 m_glowAll (116 * s + i')) → Ok (kx J) Q) : ∀ K k, k ≤ N → N - k < K → ∀ J, Sm [(m_glowAll, none)] J0 J → (∀ s, s < k → J m_glowAll (116 * s + i) = J0 m_glow s) → (∀ s i', i' < 116 → i' ≠ i → J m_glowAll (116 * s + i') = J0 m_glowAll (116 * s + i')) → Ok (F_X12_next_L60 (nI N) (nI i) I kx K (nI k) J) Q := by
  refine up ?_ ?_
  · intro K J hs hv ho
    rw [F_X12_next_L60]
    exact Ok.t (by rw [n_le] <;> omega) (hx J hs hv ho)
  · intro K k hk ih J hs hv ho
    rw [F_X12_next_L60]
    refine Ok.f (by rw [n_le] <;> omega) ?_
    simp (disch := omega) only [lit32, n_mul, nI_add, n_bx, n_cl, lb]
    refine ih _ (Sm.mj rfl hs) (fun s hs' => ?_) (fun s i' h1 h2 => ?_)
    · rw [uj_s]
      by_cases c : s = k
      · rw [if_pos (by omega), c]; exact hs _ _ rfl
      · rw [if_neg (by omega)]; exact hv s (by omega)
    · rw [uj_s, if_neg (by omega)]; exact ho s i' h1 h2
def gaQ (B : Bd) (C : List Nat) (i : Nat) (J : HJ) : Prop := ∀ s, s < 3 ^ bW B → ∀ j, j < i → J m_glowAll (116 * s + j) = glA B C s j
theorem X12_next_36 {B : Bd} (hB : OkB B) (hW : bW B ≤ 7) {C : List Nat} (hC : ∀ k, k < C.length → C.getD k 0 < nF B) (hlen : C.length ≤ 116) {kx : HI → HJ → Option (Int32 × HI × HJ)} {Q : Int32 × HI × HJ → Prop} (hx : ∀ I J, MB B I → CMod I → agM C I → gaQ B C C.length J → Ok (kx I J) Q) : ∀ K i, i ≤ C.length → C.length - i < K → ∀ I J, MB B I → CMod I → agM C I → gaQ B C i J → Ok (F_X12_next_L36 (nI (3 ^ bW B)) kx K (nI i) I J) Q := by
  have hp := p3_le hW
  refine up ?_ ?_
  · intro K I J hM hMo hA hg
    rw [F_X12_next_L36]
    exact Ok.t (by rw [hA.1, n_le] <;> omega) (hx I J hM hMo hA hg)
  · intro K i hi ih I J hM hMo hA hg
    rw [F_X12_next_L36]
    refine Ok.f (by rw [hA.1, n_le] <;> omega) (Ok.bxe (by omega) (by omega) ?_)
    rw [n_cl (by omega), hA.2 i hi]
    refine Ok.call ((X12_fg_97 hB hW (hC i hi) I J hM hMo).fo (fr_X12_findGlow_99 _ I J)) (fun r I5 J5 _ hP => ?_)
    obtain ⟨p1, p5, p6⟩ := hP
    simp only at p1 p5 p6
    refine X12_next_60 (by omega) (by omega) J5 (fun J6 s6 v6 o6 => ?_) bgf 0 (Nat.zero_le _) (by unfold bgf; omega) J5 Sm.rf (fun s hs => by omega) (fun _ _ _ _ => rfl)
    rw [nI_1]
    refine ih I5 J6 (hM.keep (Ag.of p5 (by decide))) (hMo.keep (Ag.of p5 (by decide))) (hA.keep (Ag.of p5 (by decide))) (fun s hs j hj => ?_)
    by_cases c : j = i
    · rw [c, v6 s hs, p1 s hs]; rfl
    · rw [o6 s j (by omega) c, p6 _ _ rfl]; exact hg s hs j (by omega)
def mwG (gl : Nat → Int64) (m : Nat) : Nat → Nat
  | 0 => 0
  | i+1 => max (mwG gl m i) (cntG gl m (gl i))
theorem mwG_le (gl : Nat → Int64) (m i : Nat) : mwG gl m i ≤ mxG gl m := by
  induction i with
  | zero => exact Nat.zero_le _
  | succ i ih => have := cnt_mx gl (gl i) m; show max _ _ ≤ _; omega
theorem mwG_ge (gl : Nat → Int64) (m i : Nat) (h : i ≤ m) : mxG gl i ≤ mwG gl m i := by
  induction i with
  | zero => exact Nat.le_refl _
  | succ i ih =>
    have := ih (by omega)
    have := cntG_mo gl h (gl i)
    show max _ _ ≤ max _ _; omega
theorem mwG_e (gl : Nat → Int64) (m : Nat) : mwG gl m m = mxG gl m := Nat.le_antisymm (mwG_le gl m m) (mwG_ge gl m m (Nat.le_refl _))
theorem X12_next_128 {B : Bd} {C : List Nat} (hlen : C.length ≤ 116) {s : Nat} (hs : s < 3 ^ bW B) (hp : 3 ^ bW B ≤ 2187) {I : HI} {J : HJ} (hA : agM C I) (hg : gaQ B C C.length J) {l1 l2 l3 l5 : Int32} {i : Nat} (hi : i < C.length) {kx : Int32 → Option (Int32 × HI × HJ)} {Q : Int32 × HI × HJ → Prop} (hx : Ok (kx (nI (cntG (glA B C s) C.length (glA B C s i)))) Q) : ∀ K k, k ≤ C.length → C.length - k < K → Ok (F_X12_next_L128 l1 l2 l3 (nI s) l5 (nI i) I J kx K (nI (cntG (glA B C s) k (glA B C s i))) (nI k)) Q := by
  refine up ?_ ?_
  · intro K
    rw [F_X12_next_L128]
    exact Ok.t (by rw [hA.1, n_le] <;> omega) hx
  · intro K k hk ih
    have hcl := cntG_le (glA B C s) k (glA B C s i)
    rw [F_X12_next_L128]
    refine Ok.f (by rw [hA.1, n_le] <;> omega) ?_
    simp (disch := omega) only [show (116 : Int32) = nI 116 from rfl, n_mul, nI_add, n_bx, n_cl]
    rw [hg s hs k hk, hg s hs i hi]
    refine Ok.lbv ?_
    rw [nI_1]
    rw [cntG_s] at ih
    by_cases e : glA B C s k = glA B C s i
    · rw [if_pos e] at ih
      refine Ok.t (lc0.mpr e) (Ok.lbv ?_)
      rw [nI_1]; exact ih
    · rw [if_neg e] at ih
      refine Ok.f (fun h0 => e (lc0.mp h0)) (Ok.lbv ?_)
      rw [Int32.add_zero]; exact ih
theorem X12_next_113 {B : Bd} {C : List Nat} (hlen : C.length ≤ 116) {s : Nat} (hs : s < 3 ^ bW B) (hp : 3 ^ bW B ≤ 2187) {I : HI} {J : HJ} (hA : agM C I) (hg : gaQ B C C.length J) {l1 l2 l3 : Int32} {kx : Int32 → Option (Int32 × HI × HJ)} {Q : Int32 × HI × HJ → Prop} (hx : Ok (kx (nI (wsA B C s))) Q) : ∀ K i, i ≤ C.length → C.length - i < K → Ok (F_X12_next_L113 l1 l2 l3 (nI s) I J kx K (nI (mwG (glA B C s) C.length i)) (nI i)) Q := by
  refine up ?_ ?_
  · intro K
    rw [F_X12_next_L113, mwG_e]
    exact Ok.t (by rw [hA.1, n_le] <;> omega) hx
  · intro K i hi ih
    have h1 := cntG_le (glA B C s) C.length (glA B C s i)
    have h2 := mwG_le (glA B C s) C.length i
    have h3 := mxG_le (glA B C s) C.length
    rw [F_X12_next_L113]
    refine Ok.f (by rw [hA.1, n_le] <;> omega) ?_
    refine X12_next_128 hlen hs hp hA hg hi ?_ bgf 0 (Nat.zero_le _) (by unfold bgf; omega)
    refine Ok.lbv ?_
    rw [omax_n (by omega) (by omega), nI_1]
    exact ih
def bsV (p : Nat × Option Nat) : Nat := match p.2 with | none => 0 | some _ => p.1
theorem bsN_none (W : Nat → Nat) (m : Nat) (k : Nat) (h : (bsN W m k).2 = none) : (bsN W m k).1 = m + 1 := by
  induction k with
  | zero => rfl
  | succ k ih =>
    have h' : (if W k < (bsN W m k).1 then (W k, some k) else bsN W m k).2 = none := h
    show (if W k < (bsN W m k).1 then (W k, some k) else bsN W m k).1 = m + 1
    by_cases c : W k < (bsN W m k).1
    · rw [if_pos c] at h'; cases h'
    · rw [if_neg c] at h' ⊢; exact ih h'
theorem bsN_some (W : Nat → Nat) (m : Nat) (hW : ∀ k, W k ≤ m) {k : Nat} (h : 0 < k) : ∃ j, (bsN W m k).2 = some j ∧ j < k := by
  induction k with
  | zero => omega
  | succ k ih =>
    show ∃ j, (if W k < (bsN W m k).1 then (W k, some k) else bsN W m k).2 = some j ∧ j < k + 1
    by_cases c : W k < (bsN W m k).1
    · rw [if_pos c]; exact ⟨k, rfl, by omega⟩
    · rw [if_neg c]
      by_cases d : k = 0
      · subst d; exact absurd (show W 0 < m + 1 by have := hW 0; omega) c
      · obtain ⟨j, j1, j2⟩ := ih (by omega); exact ⟨j, j1, by omega⟩
theorem X12_next_101 {B : Bd} {C : List Nat} (hlen : C.length ≤ 116) (hp : 3 ^ bW B ≤ 2187) {I : HI} {J : HJ} (hA : agM C I) (hg : gaQ B C C.length J) {kx : Int32 → Int32 → Option (Int32 × HI × HJ)} {Q : Int32 × HI × HJ → Prop} (hx : Ok (kx (fuI (bsN (wsA B C) C.length (3 ^ bW B)).2) (nI (bsV (bsN (wsA B C) C.length (3 ^ bW B))))) Q) : ∀ K k, k ≤ 3 ^ bW B → 3 ^ bW B - k < K → Ok (F_X12_next_L101 (nI (3 ^ bW B)) I J kx K (fuI (bsN (wsA B C) C.length k).2) (nI (bsV (bsN (wsA B C) C.length k))) (nI k)) Q := by
  have hWl : ∀ k, wsA B C k ≤ C.length := fun k => mxG_le _ _
  refine up ?_ ?_
  · intro K
    rw [F_X12_next_L101]
    exact Ok.t (by rw [n_le] <;> omega) hx
  · intro K k hk ih
    rw [F_X12_next_L101]
    refine Ok.f (by rw [n_le] <;> omega) ?_
    refine X12_next_113 hlen hk hp hA hg ?_ bgf 0 (Nat.zero_le _) (by unfold bgf; omega)
    refine Ok.lbv (Ok.lbv ?_)
    rw [nI_1]
    have hw := hWl k
    have hb := bsN_le (wsA B C) C.length hWl k
    rw [show bsN (wsA B C) C.length (k + 1) = (if wsA B C k < (bsN (wsA B C) C.length k).1 then (wsA B C k, some k) else bsN (wsA B C) C.length k) from rfl] at ih
    have hno := bsN_none (wsA B C) C.length k
    cases hb2 : (bsN (wsA B C) C.length k).2 with
    | none =>
      have e := hno hb2
      rw [if_pos (by omega)] at ih
      exact Ok.t rfl ih
    | some j =>
      have hj : j < k := by
        by_cases c : k = 0
        · subst c; cases hb2
        · obtain ⟨j', j1, j2⟩ := bsN_some (wsA B C) C.length hWl (k := k) (by omega)
          rw [hb2] at j1; cases j1; exact j2
      have hv : bsV (bsN (wsA B C) C.length k) = (bsN (wsA B C) C.length k).1 := by unfold bsV; rw [hb2]
      rw [hv]
      refine Ok.f (show ¬ nI j = (-1 : Int32) from fun hh => (n_ne1 (by omega)).mp hh) ?_
      by_cases d : wsA B C k < (bsN (wsA B C) C.length k).1
      · rw [if_pos d] at ih
        exact Ok.t (by rw [n_lt] <;> omega) ih
      · rw [if_neg d, hv, hb2] at ih
        exact Ok.f (by rw [n_lt] <;> omega) ih
theorem agL_lt {B : Bd} {m : Nat} {sh sl : Nat → Int32} {sg : Nat → Int64} {n k : Nat} (h : k < (agL B m sh sl sg n).length) : (agL B m sh sl sg n).getD k 0 < n := by
  have hm : (agL B m sh sl sg n).getD k 0 ∈ agL B m sh sl sg n := by
    rw [List.getD_eq_getElem?_getD, List.getElem?_eq_getElem h]; exact List.getElem_mem h
  unfold agL at hm ⊢
  exact List.mem_range.mp (List.mem_filter.mp hm).1

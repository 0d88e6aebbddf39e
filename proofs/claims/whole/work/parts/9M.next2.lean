/-! LAYER 2: next, the class -/
theorem omax_n {a b : Nat} (ha : a < 2147483648) (hb : b < 2147483648) : omax (nI a) (nI b) = nI (max a b) := by
  unfold omax
  by_cases c : a < b
  · rw [if_pos ((n_lt ha hb).mpr c), Nat.max_eq_right (by omega)]
  · rw [if_neg (fun h => c ((n_lt ha hb).mp h)), Nat.max_eq_left (by omega)]
def glA (B : Bd) (C : List Nat) (s j : Nat) : Int64 := gS B (C.getD j 0) s
def wsA (B : Bd) (C : List Nat) (s : Nat) : Nat := mxG (glA B C s) C.length
theorem X7_left {B : Bd} (hB : OkB B) {C : List Nat} (hC : ∀ k, k < C.length → C.getD k 0 < nF B) (hlen : C.length ≤ 116) {s : Nat} (hs : s < 3 ^ bW B) {best : Nat} (hb : best ≤ 117) (I : HI) (J : HJ) (hX : XB B I J) (hR : rfQ B I J) (hA : agX C I) : Ok (F_X7_leftAtWorst (nI s) (nI best) I J) (fun q => ∃ r, q.1 = nI r ∧ r ≤ wsA B C s ∧ (r = wsA B C s ∨ best ≤ r) ∧ XB B q.2.1 q.2.2 ∧ rfQ B q.2.1 q.2.2 ∧ agX C q.2.1) := by
  unfold F_X7_leftAtWorst
  refine Ok.lbv ?_
  have hl : ∀ K i, i ≤ C.length → C.length - i < K → ∀ I J, XB B I J → rfQ B I J → agX C I → grQ (glA B C s) i I J → Ok (F_X7_leftAtWorst_L10 (nI s) (nI best) K (nI (mxG (glA B C s) i)) (nI i) I J) (fun q => ∃ r, q.1 = nI r ∧ r ≤ wsA B C s ∧ (r = wsA B C s ∨ best ≤ r) ∧ XB B q.2.1 q.2.2 ∧ rfQ B q.2.1 q.2.2 ∧ agX C q.2.1) := by
    refine up ?_ ?_
    · intro K I J hX hR hA hG
      rw [F_X7_leftAtWorst_L10]
      exact Ok.t (by rw [hA.1, n_le] <;> omega) (Ok.mk ⟨_, rfl, Nat.le_refl _, Or.inl rfl, hX, hR, hA⟩)
    · intro K i hi ih I J hX hR hA hG
      have hmx := mxG_le (glA B C s) i
      rw [F_X7_leftAtWorst_L10]
      refine Ok.f (by rw [hA.1, n_le] <;> omega) (Ok.ite (fun c => Ok.mk ⟨mxG (glA B C s) i, rfl, mxG_mo _ (by omega), Or.inr ?_, hX, hR, hA⟩) (fun c => ?_))
      · rwa [n_le (by omega) (by omega)] at c
      · refine Ok.bxe (by omega) (by omega) ?_
        rw [n_cl (by omega), hA.2 i hi]
        refine Ok.call ((X7_glowBy hB (hC i hi) hs I J hX hR).fo (fr_X7_glowBy _ _ I J)) (fun r I5 J5 _ hP => ?_)
        obtain ⟨⟨p1, p2, p3⟩, p5, p6⟩ := hP
        simp only at p1 p2 p3 p5 p6
        have hA5 : agX C I5 := hA.keep (Ag.of p5 (by decide))
        have hG5 : grQ (glA B C s) i I5 J5 := hG.keep (Ag.of p5 (by decide)) (Ag.of p6 (by decide))
        rw [p1]
        refine Ok.call ((X7_join (by omega) I5 J5 hG5).fo (fr_X7_joinGroup _ I5 J5)) (fun r2 I6 J6 _ hP => ?_)
        obtain ⟨⟨q1, q2⟩, q5, q6⟩ := hP
        simp only at q1 q2 q5 q6
        have hcl := cntG_le (glA B C s) (i + 1) (glA B C s i)
        rw [q1]
        refine Ok.lbv ?_
        rw [omax_n (by omega) (by omega), nI_1]
        exact ih I6 J6 (p2.keep (Ag.of q5 (by decide)) (Ag.of q6 (by decide))) (p3.keep (Ag.of q5 (by decide)) (Ag.of q6 (by decide)) (Ag.of q5 (by decide)) (Ag.of q6 (by decide))) (hA5.keep (Ag.of q5 (by decide))) q2
  have s0 : Sm [(x_suspects, some f_Suspects_groups)] I (ui I x_suspects f_Suspects_groups 0) := Sm.mi rfl Sm.rf
  refine hl bgf 0 (Nat.zero_le _) (by unfold bgf; omega) _ J (hX.keep (Ag.of s0 (by decide)) (fun _ _ _ => rfl)) (hR.keep (Ag.of s0 (by decide)) (fun _ _ _ => rfl) (Ag.of s0 (by decide)) (fun _ _ _ => rfl)) (hA.keep (Ag.of s0 (by decide))) ⟨0, Nat.le_refl _, by rw [ui_r]; rfl, (fun k hk => by omega), (fun k k' hk => by omega), (fun j hj => by omega)⟩
def bsN (W : Nat → Nat) (m : Nat) : Nat → Nat × Option Nat
  | 0 => (m + 1, none)
  | k+1 => if W k < (bsN W m k).1 then (W k, some k) else bsN W m k
theorem bsN_le (W : Nat → Nat) (m : Nat) (hW : ∀ k, W k ≤ m) (k : Nat) : (bsN W m k).1 ≤ m + 1 := by
  induction k with
  | zero => exact Nat.le_refl _
  | succ k ih =>
    show (if W k < (bsN W m k).1 then (W k, some k) else bsN W m k).1 ≤ m + 1
    split
    · have := hW k; show W k ≤ _; omega
    · exact ih
theorem bsN_end (W : Nat → Nat) (m : Nat) (hW : ∀ k, 1 ≤ W k) {k : Nat} (h : (bsN W m k).1 ≤ 1) {j : Nat} (hj : k ≤ j) : bsN W m j = bsN W m k := by
  induction j with
  | zero => have : k = 0 := by omega
            rw [this]
  | succ j ih =>
    by_cases c : k = j + 1
    · rw [c]
    · have e := ih (by omega)
      show (if W j < (bsN W m j).1 then (W j, some j) else bsN W m j) = _
      rw [e, if_neg]
      have := hW j; omega
theorem X11_next_L {B : Bd} (hB : OkB B) {C : List Nat} (hC : ∀ k, k < C.length → C.getD k 0 < nF B) (hlen : C.length ≤ 116) (h0 : 0 < C.length) {kx : Int32 → Int32 → HI → HJ → Option (Int32 × HI × HJ)} {Q : Int32 × HI × HJ → Prop} (hx : ∀ I J, XB B I J → rfQ B I J → Ok (kx (nI (bsN (wsA B C) C.length (3 ^ bW B)).1) (fuI (bsN (wsA B C) C.length (3 ^ bW B)).2) I J) Q) : ∀ K k, k ≤ 3 ^ bW B → 3 ^ bW B - k < K → ∀ I J, XB B I J → rfQ B I J → agX C I → Ok (F_X11_next_L44 kx K (nI (bsN (wsA B C) C.length k).1) (fuI (bsN (wsA B C) C.length k).2) (nI k) I J) Q := by
  have hWl : ∀ k, wsA B C k ≤ C.length := fun k => mxG_le _ _
  have hWp : ∀ k, 1 ≤ wsA B C k := fun k => mx_pos _ h0
  refine up ?_ ?_
  · intro K I J hX hR hA
    have hp := p3_le hR.1.1
    rw [F_X11_next_L44]
    exact Ok.t (by rw [hR.1.2.1, n_le] <;> omega) (hx I J hX hR)
  · intro K k hk ih I J hX hR hA
    have hp := p3_le hR.1.1
    have hb := bsN_le (wsA B C) C.length hWl k
    rw [F_X11_next_L44]
    refine Ok.f (by rw [hR.1.2.1, n_le] <;> omega) (Ok.ite (fun c => ?_) (fun c => ?_))
    · have c' : nI (bsN (wsA B C) C.length k).1 ≤ nI 1 := c
      rw [n_le (by omega) (by omega)] at c'
      have e := bsN_end (wsA B C) C.length hWp c' (j := 3 ^ bW B) (by omega)
      rw [← e]; exact hx I J hX hR
    · refine Ok.call (X7_left hB hC hlen hk (best := (bsN (wsA B C) C.length k).1) (by omega) I J hX hR hA) (fun r I5 J5 _ hP => ?_)
      obtain ⟨r', p1, p2, p3, p4, p5, p6⟩ := hP
      simp only at p1 p4 p5 p6
      have := hWl k
      rw [p1, nI_1]
      refine Ok.lbv ?_
      have ih' := ih I5 J5 p4 p5 p6
      rw [show bsN (wsA B C) C.length (k + 1) = (if wsA B C k < (bsN (wsA B C) C.length k).1 then (wsA B C k, some k) else bsN (wsA B C) C.length k) from rfl] at ih'
      by_cases d : wsA B C k < (bsN (wsA B C) C.length k).1
      · rw [if_pos d] at ih'
        have er : r' = wsA B C k := by omega
        refine Ok.f (by rw [n_le] <;> omega) ?_
        rw [er]; exact ih'
      · rw [if_neg d] at ih'
        exact Ok.t (by rw [n_le] <;> omega) ih'

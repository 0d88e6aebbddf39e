/-! LAYER 2: the class's carry -/
def wtI : Option Nat → Int32
  | none => -nI 1
  | some a => nI a
def wtB : Option Nat → Nat → Bool
  | none, _ => false
  | some a, l => decide (l = a)
def wtOk : Option Nat → Prop
  | none => True
  | some a => a < 64
theorem wt_eq {wt : Option Nat} {l : Nat} (hl : l < 64) (hw : wtOk wt) : (nI l = wtI wt) ↔ wtB wt l = true := by
  cases wt with
  | none => simp only [wtI, wtB]; rw [n_ne1 (by omega)]; simp
  | some a => simp only [wtI, wtB]; rw [n_eq (by omega) (Nat.lt_trans hw (by decide))]; simp
def b1 (p : Bool) : Int32 := if p then nI 1 else nI 0
theorem b1_or1 (p : Bool) : b1 p ||| nI 1 = b1 true := by cases p <;> decide
theorem b1_or0 (p : Bool) : b1 p ||| nI 0 = b1 p := by cases p <;> decide
theorem b1_0 {p : Bool} : (b1 p = nI 0) ↔ p = false := if10
theorem take_s (p : List Nat) {i : Nat} (h : i < p.length) : p.take (i + 1) = p.take i ++ [p.getD i 0] := by
  rw [List.take_succ_eq_append_getElem h]; simp [List.getD, h]
theorem getD_mem {p : List Nat} {i : Nat} (h : i < p.length) : p.getD i 0 ∈ p := by
  have : p.getD i 0 = p[i] := by simp [List.getD, h]
  rw [this]; exact List.getElem_mem h
def wWay (p : List Nat) (I : HI) : Prop := ∀ k, k < p.length → I x_flow_way k = nI (p.getD k 0)
def invC (p : List Nat) (c : Nat) (J0 : HJ) (i : Nat) (J : HJ) : Prop :=
  (∀ k, k < 64 → J x_flow_light k = J0 x_flow_light k + lN (c * (p.take i).count k)) ∧
  (∀ k, k < 64 → bt (J x_flow f_Flow_lit) k = (bt (J0 x_flow f_Flow_lit) k || (p.take i).contains k)) ∧
  Sm [(x_flow_light, none), (x_flow, some f_Flow_lit)] J0 J
theorem X1_carry_L (l1 l2 : Int32) (I : HI) (J0 : HJ) (p : List Nat) (c : Nat) (wt : Option Nat) (hp : wWay p I) (hlt : ∀ k, k ∈ p → k < 60) (h3 : p.length ≤ 3) (hw : I x_flow f_Flow_watched = wtI wt) (hwo : wtOk wt) (kx : Int32 → HJ → Option (Unit × HI × HJ)) (Q : Unit × HI × HJ → Prop)
    (hx : ∀ J, invC p c J0 p.length J → Ok (kx (b1 (p.any (wtB wt))) J) Q) :
    ∀ K i, i ≤ p.length → p.length - i < K → ∀ J, invC p c J0 i J → Ok (F_X1_carry_L52 l1 l2 (nI p.length) (lN c) I kx K (b1 ((p.take i).any (wtB wt))) (nI i) J) Q := by
  refine up ?_ ?_
  · intro K J hJ
    rw [F_X1_carry_L52, if_pos (by rw [n_le] <;> omega), List.take_length]
    exact hx J hJ
  · intro K i hi ih J hJ
    have e := hp i hi
    have e2 := hlt _ (getD_mem hi)
    generalize hg : p.getD i 0 = g at e e2
    rw [F_X1_carry_L52, if_neg (by rw [n_le] <;> omega)]
    simp (disch := omega) only [n_cl, n_bx, e, lb, lit32, nI_1, nI_add]
    have hJ' : invC p c J0 (i + 1) (uj (uj J x_flow_light g (J x_flow_light g + lN c)) x_flow f_Flow_lit (uj J x_flow_light g (J x_flow_light g + lN c) x_flow f_Flow_lit ||| olshl (1 : Int64) (nI g))) := by
      obtain ⟨j1, j2, j3⟩ := hJ
      refine ⟨fun k hk => ?_, fun k hk => ?_, ?_⟩
      · rw [uj_c (by decide), uj_s, take_s p hi, hg, List.count_append]
        by_cases ck : k = g
        · subst ck
          rw [if_pos rfl, j1 k hk]
          simp only [List.count_singleton_self, Nat.mul_add, Nat.mul_one]
          rw [← lN_add, Int64.add_assoc]
        · rw [if_neg ck, j1 k hk]
          have : List.count k [g] = 0 := by
            rw [List.count_eq_zero]; simp [ck]
          rw [this, Nat.add_zero]
      · rw [uj_s, if_pos rfl, uj_c (by decide), bt_or, j2 k hk, litL, t_one (by omega), take_s p hi, hg]
        by_cases ck : k = g
        · simp [ck]
        · simp [ck]
      · exact Sm.mj rfl (Sm.mj rfl j3)
    have hth : (p.take (i + 1)).any (wtB wt) = ((p.take i).any (wtB wt) || wtB wt g) := by
      rw [take_s p hi, hg, List.any_append]; simp
    rw [hw]
    by_cases c1 : nI g = wtI wt
    · rw [if_pos c1, b1_or1]
      have := ih _ hJ'
      rw [hth, (wt_eq (by omega) hwo).mp c1, Bool.or_true] at this
      exact this
    · rw [if_neg c1, b1_or0]
      have := ih _ hJ'
      have c2 : wtB wt g = false := by
        cases h : wtB wt g with
        | false => rfl
        | true => exact absurd ((wt_eq (by omega) hwo).mpr h) c1
      rw [hth, c2, Bool.or_false] at this
      exact this
-- the best way
def bsX (m : Nat × List Nat) (I : HI) (J : HJ) : Prop := J x_flow f_Flow_best = lN m.1 ∧ I x_flow f_Flow_bestSize = nI m.2.length ∧ ∀ k, k < m.2.length → I x_flow_bestWay k = nI (m.2.getD k 0)
theorem ltW_d {p q : List Nat} (h : p.length = q.length) : ∀ i, i ≤ p.length → (∀ k, k < i → p.getD k 0 = q.getD k 0) → ltW p q = ltW (p.drop i) (q.drop i) := by
  induction p generalizing q with
  | nil => intro i hi _; simp at hi; subst hi; simp
  | cons x p ih =>
    cases q with
    | nil => simp at h
    | cons y q =>
      intro i hi hk
      cases i with
      | zero => rfl
      | succ i =>
        have e : x = y := by simpa using hk 0 (by omega)
        subst e
        simp only [ltW, if_true, List.drop_succ_cons]
        exact ih (by simpa using h) i (by simpa using hi) (fun k hk' => by simpa using hk (k + 1) (by omega))
theorem drop_g {p : List Nat} {i : Nat} (h : i < p.length) : p.drop i = p.getD i 0 :: p.drop (i + 1) := by
  rw [List.drop_eq_getElem_cons h]; simp [List.getD, h]
theorem X1_less (p : List Nat) (m : Nat × List Nat) (I : HI) (J : HJ) (hp : wWay p I) (h3 : p.length ≤ 3) (g3 : m.2.length ≤ 3) (hlt : ∀ k, k ∈ p → k < 60) (hlm : ∀ k, k ∈ m.2 → k < 60) (hb : bsX m I J) (l2 : Int64) (kx : Int32 → Option (Unit × HI × HJ)) (c : p.length = m.2.length) :
    ∀ K i, i ≤ p.length → p.length - i < K → ((∀ x, F_X1_noteWay_L70 (nI p.length) l2 I J kx K x (nI 0) (nI i) = kx x) ∧ ((∀ k, k < i → p.getD k 0 = m.2.getD k 0) → F_X1_noteWay_L70 (nI p.length) l2 I J kx K (nI 0) (nI 1) (nI i) = kx (b1 (ltW p m.2)))) := by
  obtain ⟨_, h2, h4⟩ := hb
  refine up ?_ ?_
  · intro K
    refine ⟨fun x => ?_, fun hk => ?_⟩
    · rw [F_X1_noteWay_L70, if_pos (by rw [n_le] <;> omega)]
    · rw [F_X1_noteWay_L70, if_pos (by rw [n_le] <;> omega), ltW_d c p.length (Nat.le_refl _) hk]
      have e : ltW (p.drop p.length) (m.2.drop p.length) = false := by simp [ltW]
      rw [e]; rfl
  · intro K i hi ih
    refine ⟨fun x => ?_, fun hk => ?_⟩
    · rw [F_X1_noteWay_L70, if_neg (by rw [n_le] <;> omega), if_pos (show nI 0 = (0 : Int32) by decide)]
    · have e1 := hp i hi
      have e2 := h4 i (by omega)
      have q1 := hlt _ (getD_mem hi)
      have q2 := hlm _ (getD_mem (show i < m.2.length by omega))
      rw [F_X1_noteWay_L70, if_neg (by rw [n_le] <;> omega), if_neg (show ¬ nI 1 = (0 : Int32) by decide)]
      simp (disch := omega) only [n_cl, n_bx, e1, e2, n_eq, n_le, lb, lit32, nI_1, nI_add]
      by_cases d : p.getD i 0 = m.2.getD i 0
      · rw [if_pos (show m.2.getD i 0 ≤ p.getD i 0 by omega), if_pos d]
        exact ih.2 (fun k hk' => by
          by_cases ck : k = i
          · subst ck; exact d
          · exact hk k (by omega))
      · simp only [if_neg d]
        rw [ih.1, ih.1, ltW_d c i (by omega) hk, drop_g hi, drop_g (show i < m.2.length by omega)]
        simp only [ltW, if_neg d]
        by_cases d2 : m.2.getD i 0 ≤ p.getD i 0
        · rw [if_pos d2]
          have : ¬ p.getD i 0 < m.2.getD i 0 := by omega
          rw [decide_eq_false this]; rfl
        · rw [if_neg d2]
          have : p.getD i 0 < m.2.getD i 0 := by omega
          rw [decide_eq_true this]; rfl
theorem X1_stop (n : Nat) (I : HI) (J : HJ) (l2 : Int64) (kx : Int32 → Option (Unit × HI × HJ)) (K : Nat) (x : Int32) (i : Int32) : F_X1_noteWay_L70 (nI n) l2 I J kx (K + 1) x (nI 0) i = kx x := by
  rw [F_X1_noteWay_L70]
  split
  · rfl
  · rw [if_pos (show nI 0 = (0 : Int32) by decide)]
def RX (wt : Option Nat) (ps : List Pa) (I : HI) (J : HJ) : Prop :=
  (∀ k, k < 64 → J x_flow_light k = lN (liT ps k)) ∧ (∀ k, k < 64 → bt (J x_flow f_Flow_lit) k = onT ps k) ∧ (∀ w, w < 10 → J x_flow_drawn w = lN (drT ps w)) ∧
  I x_flow f_Flow_watched = wtI wt ∧ (∀ a, wt = some a → I x_flow f_Flow_passing = nI (psT a ps) ∧ bsX (bsT a ps) I J)
def okP (q : Pa) : Prop := q.1 < 10 ∧ q.2.2.1 < 10 ∧ q.2.1.length ≤ 3 ∧ (∀ k, k ∈ q.2.1 → k < 60) ∧ 0 < q.2.2.2 ∧ q.2.2.2 < 1000000
theorem bsT_ok (a : Nat) (ps : List Pa) (h : ∀ q, q ∈ ps → okP q) : (bsT a ps).2.length ≤ 3 ∧ (∀ k, k ∈ (bsT a ps).2 → k < 60) ∧ (bsT a ps).1 < 1000000 := by
  unfold bsT
  have : ∀ (m : Nat × List Nat), (m.2.length ≤ 3 ∧ (∀ k, k ∈ m.2 → k < 60) ∧ m.1 < 1000000) → ((ps.foldl (bs1 a) m).2.length ≤ 3 ∧ (∀ k, k ∈ (ps.foldl (bs1 a) m).2 → k < 60) ∧ (ps.foldl (bs1 a) m).1 < 1000000) := by
    induction ps with
    | nil => intro m hm; exact hm
    | cons q ps ih =>
      intro m hm
      rw [List.foldl_cons]
      refine ih (fun q' hq' => h q' (List.mem_cons_of_mem _ hq')) _ ?_
      obtain ⟨_, _, g3, g4, _, g6⟩ := h q (List.mem_cons_self ..)
      unfold bs1
      split
      · exact ⟨g3, g4, g6⟩
      · exact hm
  exact this (0, []) ⟨by simp, by simp, by simp⟩

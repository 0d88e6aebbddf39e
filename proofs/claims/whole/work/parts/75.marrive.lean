/-! LAYER 2: the reference's arrive -/
def ctT (ps : List Pa) (k : Nat) : Nat := (ps.map (fun q => q.2.1.count k)).sum
def mx1 (k : Nat) (m : Nat) (q : Pa) : Nat := if q.2.1.contains k then max m q.2.2.2 else m
def mxT (ps : List Pa) (k : Nat) : Nat := ps.foldl (mx1 k) 0
theorem ctT_a (ps qs : List Pa) (k : Nat) : ctT (ps ++ qs) k = ctT ps k + ctT qs k := by unfold ctT; rw [List.map_append, List.sum_append]
theorem ctT_1 (q : Pa) (k : Nat) : ctT [q] k = q.2.1.count k := by simp [ctT]
theorem mxT_a (ps : List Pa) (q : Pa) (k : Nat) : mxT (ps ++ [q]) k = mx1 k (mxT ps k) q := by unfold mxT; rw [List.foldl_append]; rfl
theorem mxT_lt (ps : List Pa) (h : ∀ q, q ∈ ps → okP q) (k : Nat) : mxT ps k < 1000000 := by
  unfold mxT
  have : ∀ m, m < 1000000 → ps.foldl (mx1 k) m < 1000000 := by
    induction ps with
    | nil => intro m hm; exact hm
    | cons q ps ih =>
      intro m hm
      rw [List.foldl_cons]
      refine ih (fun q' hq' => h q' (List.mem_cons_of_mem _ hq')) _ ?_
      have := (h q (List.mem_cons_self ..)).2.2.2.2.2
      unfold mx1; split <;> omega
  exact this 0 (by decide)
def bsM (m : Nat × List Nat) (I : HI) (J : HJ) : Prop := J m_self f_Model_bestCarry = lN m.1 ∧ (m.1 ≠ 0 → I m_self f_Model_bestMany = nI m.2.length ∧ ∀ k, k < m.2.length → I m_bestPath k = nI (m.2.getD k 0))
def RM (B : Bd) (ct : Bool) (wt : Option Nat) (ps : List Pa) (I : HI) (J : HJ) : Prop :=
  (∀ k, k < bL B → J m_light k = lN (liT ps k)) ∧ I m_self f_Model_isCounted = b1 ct ∧ I m_self f_Model_asked = wtI wt ∧
  (ct = true → (∀ k, k < bL B → I m_through k = nI (ctT ps k) ∧ J m_mostOne k = lN (mxT ps k)) ∧ (∀ w, w < bW B → J m_drawn w = lN (drT ps w)) ∧ ∀ a, wt = some a → bsM (bsT a ps) I J)
def wP (p : List Nat) (I : HI) : Prop := ∀ k, k < p.length → I m_path k = nI (p.getD k 0)
theorem omax_l {a b : Nat} (ha : a < 1000000) (hb : b < 1000000) : omaxl (lN a) (lN b) = lN (max a b) := by
  unfold omaxl
  simp (disch := omega) only [L_lt]
  by_cases c : b < a
  · rw [if_pos c, Nat.max_eq_left (by omega)]
  · rw [if_neg c, Nat.max_eq_right (by omega)]
def invA (B : Bd) (ct : Bool) (p : List Nat) (c : Nat) (I0 : HI) (J0 : HJ) (ps : List Pa) (i : Nat) (I : HI) (J : HJ) : Prop :=
  (∀ k, k < bL B → J m_light k = lN (liT ps k + c * (p.take i).count k)) ∧
  (ct = true → ∀ k, k < bL B → I m_through k = nI (ctT ps k + (p.take i).count k) ∧ J m_mostOne k = lN (if (p.take i).contains k then max (mxT ps k) c else mxT ps k)) ∧
  Sm [(m_through, none)] I0 I ∧ Sm [(m_light, none), (m_mostOne, none)] J0 J
theorem X12_arr_L {B : Bd} (hB : OkB B) (ct : Bool) (l1 l2 : Int32) (I0 : HI) (J0 : HJ) (ps : List Pa) (hok : ∀ q, q ∈ ps → okP q) (p : List Nat) (c : Nat) (hc : c < 1000000) (wt : Option Nat) (hp : wP p I0) (hlt : ∀ k, k ∈ p → k < bL B) (h3 : p.length ≤ 3) (hw : I0 m_self f_Model_asked = wtI wt) (hwo : wtOk wt) (hct : I0 m_self f_Model_isCounted = b1 ct) (kx : Int32 → HI → HJ → Option (Unit × HI × HJ)) (Q : Unit × HI × HJ → Prop)
    (hx : ∀ I J, invA B ct p c I0 J0 ps p.length I J → Ok (kx (b1 (p.any (wtB wt))) I J) Q) :
    ∀ K i, i ≤ p.length → p.length - i < K → ∀ I J, invA B ct p c I0 J0 ps i I J → Ok (F_X12_arrive_L30 l1 l2 (nI p.length) (lN c) kx K (b1 ((p.take i).any (wtB wt))) (nI i) I J) Q := by
  have h60 := hB.2.2.1
  refine up ?_ ?_
  · intro K I J hJ
    rw [F_X12_arrive_L30, if_pos (by rw [n_le] <;> omega), List.take_length]
    exact hx I J hJ
  · intro K i hi ih I J hJ
    obtain ⟨j1, j2, j3, j4⟩ := hJ
    have e : I m_path i = nI (p.getD i 0) := by rw [j3 _ _ rfl]; exact hp i hi
    have e2 := hlt _ (getD_mem hi)
    generalize hg : p.getD i 0 = g at e e2
    have ec : I m_self f_Model_isCounted = b1 ct := by rw [j3 _ _ rfl]; exact hct
    have ea : I m_self f_Model_asked = wtI wt := by rw [j3 _ _ rfl]; exact hw
    rw [F_X12_arrive_L30, if_neg (by rw [n_le] <;> omega)]
    have hcnt : ∀ k, (p.take (i + 1)).count k = (p.take i).count k + (if k = g then 1 else 0) := fun k => by
      rw [take_s p hi, hg, List.count_append]
      by_cases ck : k = g
      · subst ck; simp
      · have : List.count k [g] = 0 := by rw [List.count_eq_zero]; simp [ck]
        rw [this, if_neg ck]
    have hctn : ∀ k, (p.take (i + 1)).contains k = ((p.take i).contains k || decide (k = g)) := fun k => by
      rw [take_s p hi, hg]
      by_cases ck : k = g
      · subst ck; simp
      · simp [ck]
    have hth : (p.take (i + 1)).any (wtB wt) = ((p.take i).any (wtB wt) || wtB wt g) := by
      rw [take_s p hi, hg, List.any_append]; simp
    have hwg : (nI g = wtI wt) ↔ wtB wt g = true := wt_eq (by omega) hwo
    -- what happens behind the question whether it is asked for
    have body : ∀ y, y = b1 ((p.take (i + 1)).any (wtB wt)) → Ok (if I m_self f_Model_isCounted = nI 0 then F_X12_arrive_L30 l1 l2 (nI p.length) (lN c) kx K y (nI (i + 1)) I (uj J m_light g (J m_light g + lN c)) else F_X12_arrive_L30 l1 l2 (nI p.length) (lN c) kx K y (nI (i + 1)) (ui I m_through g (I m_through g + nI 1)) (uj (uj J m_light g (J m_light g + lN c)) m_mostOne g (omaxl (uj J m_light g (J m_light g + lN c) m_mostOne g) (lN c)))) Q := by
      intro y hy
      subst hy
      simp only [ec, b1_0]
      have jl : ∀ k, k < bL B → uj J m_light g (J m_light g + lN c) m_light k = lN (liT ps k + c * (p.take (i + 1)).count k) := fun k hk => by
        rw [uj_s, hcnt]
        by_cases ck : k = g
        · subst ck
          rw [if_pos rfl, if_pos rfl, j1 k hk, lN_add, Nat.mul_add, Nat.mul_one, Nat.add_assoc]
        · rw [if_neg ck, if_neg ck, j1 k hk, Nat.add_zero]
      cases hcc : ct with
      | false =>
        rw [if_pos rfl]
        exact ih _ _ ⟨jl, (fun h => by rw [hcc] at h; cases h), j3, Sm.mj rfl j4⟩
      | true =>
        rw [if_neg (by simp)]
        refine ih _ _ ⟨fun k hk => by rw [uj_c (by decide)]; exact jl k hk, fun _ k hk => ?_, Sm.mi rfl j3, Sm.mj rfl (Sm.mj rfl j4)⟩
        obtain ⟨t1, t2⟩ := j2 hcc k hk
        rw [ui_s, uj_s, uj_c (by decide), hcnt, hctn]
        by_cases ck : k = g
        · subst ck
          rw [if_pos rfl, if_pos rfl, if_pos rfl, t1, t2, nI_add, Nat.add_assoc]
          refine ⟨rfl, ?_⟩
          have hm := mxT_lt ps hok k
          simp only [decide_true, Bool.or_true, if_true]
          rw [omax_l (by split <;> omega) hc]
          split
          · rw [Nat.max_assoc, Nat.max_self]
          · rfl
        · rw [if_neg ck, if_neg ck, if_neg ck, t1, t2]
          simp [ck]
    simp (disch := omega) only [n_cl, n_bx, e, lb, lit32, nI_1, nI_add, ui_c (show m_path ≠ m_through by decide)]
    rw [ea]
    cases hb : (p.take i).any (wtB wt) with
    | false =>
      rw [if_pos (by decide)]
      by_cases c1 : nI g = wtI wt
      · rw [if_pos c1]
        exact body _ (by rw [hth, hb, hwg.mp c1]; rfl)
      · rw [if_neg c1]
        have c2 : wtB wt g = false := by
          cases h : wtB wt g with
          | false => rfl
          | true => exact absurd (hwg.mpr h) c1
        exact body _ (by rw [hth, hb, c2]; rfl)
    | true =>
      rw [if_neg (by decide)]
      exact body _ (by rw [hth, hb]; rfl)
theorem X12_better (p : List Nat) (c : Nat) (m : Nat × List Nat) (I : HI) (J : HJ) (hp : wP p I) (h3 : p.length ≤ 3) (g3 : m.2.length ≤ 3) (hlt : ∀ k, k ∈ p → k < 60) (hlm : ∀ k, k ∈ m.2 → k < 60) (hc0 : 0 < c) (hc : c < 1000000) (hm : m.1 < 1000000) (hb : bsM m I J) : F_X12_isBetter (lN c) (nI p.length) I J = some (b1 (btr c p m.1 m.2)) := by
  obtain ⟨h1, h2⟩ := hb
  unfold F_X12_isBetter
  simp only [lit32, cm0, cmle]
  rw [h1]
  by_cases c0 : c = m.1
  · rw [if_pos (by rw [c0])]
    obtain ⟨h2, h4⟩ := h2 (by omega)
    rw [h2]
    unfold btr
    rw [if_pos c0]
    by_cases c : p.length = m.2.length
    · rw [if_pos (by rw [c]), if_pos c]
      have : ∀ K i, i ≤ p.length → p.length - i < K → ((∀ k, k < i → p.getD k 0 = m.2.getD k 0) → F_X12_isBetter_L49 (nI p.length) I J (fun (y1 : Int32) => bx y1 3 <| bx y1 3 <| if (I m_bestPath (Int32.toNatClampNeg y1)) ≤ (I m_path (Int32.toNatClampNeg y1)) then some (nI 0) else some (nI 1)) K (nI i) = some (b1 (ltW p m.2))) := by
        refine up ?_ ?_
        · intro K hk
          rw [F_X12_isBetter_L49, if_pos (by rw [n_le] <;> omega), ltW_d c p.length (Nat.le_refl _) hk]
          simp [ltW]; rfl
        · intro K i hi ih hk
          have e1 := hp i hi
          have e2 := h4 i (by omega)
          have q1 := hlt _ (getD_mem hi)
          have q2 := hlm _ (getD_mem (show i < m.2.length by omega))
          rw [F_X12_isBetter_L49, if_neg (by rw [n_le] <;> omega)]
          simp (disch := omega) only [n_cl, n_bx, e1, e2, n_eq, n_le, nI_1]
          by_cases d : p.getD i 0 = m.2.getD i 0
          · rw [if_pos d]
            exact ih (fun k hk' => by
              by_cases ck : k = i
              · subst ck; exact d
              · exact hk k (by omega))
          · rw [if_neg d, ltW_d c i (by omega) hk, drop_g hi, drop_g (show i < m.2.length by omega)]
            simp only [ltW, if_neg d]
            by_cases d2 : m.2.getD i 0 ≤ p.getD i 0
            · rw [if_pos d2]
              have : ¬ p.getD i 0 < m.2.getD i 0 := by omega
              rw [decide_eq_false this]; rfl
            · rw [if_neg d2]
              have : p.getD i 0 < m.2.getD i 0 := by omega
              rw [decide_eq_true this]; rfl
      exact this bgf 0 (by omega) (by unfold bgf; omega) (fun k hk => by omega)
    · rw [if_neg (by rw [n_eq] <;> omega), if_neg c]
      simp (disch := omega) only [n_le]
      by_cases d : m.2.length ≤ p.length
      · rw [if_pos d]
        have : ¬ p.length < m.2.length := by omega
        simp [this]; rfl
      · rw [if_neg d]
        have : p.length < m.2.length := by omega
        simp [this]; rfl
  · rw [if_neg (by rw [L_eq] <;> omega)]
    unfold btr
    rw [if_neg c0]
    simp (disch := omega) only [L_le]
    by_cases d : c ≤ m.1
    · rw [if_pos d]
      have : ¬ m.1 < c := by omega
      simp [this]; rfl
    · rw [if_neg d]
      have : m.1 < c := by omega
      simp [this]; rfl
theorem X12_arr_L2 (p : List Nat) (I0 : HI) (J : HJ) (hp : wP p I0) (h3 : p.length ≤ 3) :
    ∀ K i, i ≤ p.length → p.length - i < K → ∀ I, ((∀ k, k < i → I m_bestPath k = nI (p.getD k 0)) ∧ Sm [(m_bestPath, none)] I0 I) → Ok (F_X12_arrive_L200 (nI p.length) J K (nI i) I) (fun q => q.2.2 = J ∧ (∀ k, k < p.length → q.2.1 m_bestPath k = nI (p.getD k 0)) ∧ Sm [(m_bestPath, none)] I0 q.2.1) := by
  refine up ?_ ?_
  · intro K I h
    rw [F_X12_arrive_L200, if_pos (by rw [n_le] <;> omega)]
    exact Ok.mk ⟨rfl, h.1, h.2⟩
  · intro K i hi ih I h
    have e : I m_path i = nI (p.getD i 0) := by rw [h.2 _ _ rfl]; exact hp i hi
    rw [F_X12_arrive_L200, if_neg (by rw [n_le] <;> omega)]
    simp (disch := omega) only [n_cl, n_bx, e, lb, nI_1]
    refine ih _ ⟨fun k hk => ?_, Sm.mi rfl h.2⟩
    rw [ui_s]
    by_cases c : k = i
    · subst c; rw [if_pos rfl]
    · rw [if_neg c]; exact h.1 k (by omega)
theorem dv_all : ∀ (x : Fin 21) (n : Fin 12), 1 ≤ n.val → (lN 27720 * lN x.val) / lN n.val = lN (x.val * (27720 / n.val)) := by decide +kernel
theorem X12_arrive {B : Bd} (hB : OkB B) (ct : Bool) (wt : Option Nat) (ps : List Pa) (s e os oe x : Nat) (p : List Nat) (I : HI) (J : HJ) (hs : s < bW B) (he : e < bW B) (hos : F_X12_ohmsOf (nI s) I J = some (nI os)) (hoe : F_X12_ohmsOf (nI e) I J = some (nI oe)) (ko : os ≤ 4) (ke : oe ≤ 4) (h1 : 1 ≤ p.length) (h3 : p.length ≤ 3) (hlt : ∀ k, k ∈ p → k < bL B) (hx1 : 1 ≤ x) (hx : x ≤ 20) (hp : wP p I) (hwo : wtOk wt) (hok : ∀ q, q ∈ ps → okP q) (hR : RM B ct wt ps I J) :
    Ok (F_X12_arrive (nI s) (nI e) (nI p.length) (nI x) I J) (fun q => RM B ct wt (ps ++ [(s, p, e, x * (27720 / (os + oe + p.length)))]) q.2.1 q.2.2) := by
  obtain ⟨r1, r2, r3, r4⟩ := hR
  have hW := hB.2.1
  have h60 := hB.2.2.1
  have hlt6 : ∀ k, k ∈ p → k < 60 := fun k hk => by have := hlt k hk; omega
  unfold F_X12_arrive
  rw [hos, hoe]
  generalize hn : os + oe + p.length = n
  have hn1 : 1 ≤ n := by omega
  have hn2 : n < 12 := by omega
  obtain ⟨_, a2, a3⟩ := sh_all ⟨n, hn2⟩ hn1
  simp only at a2 a3
  simp (disch := omega) only [cp, Option.bind_some, nI_add, hn, n_l, litL, lb]
  have hnz : ¬ (lN n = 0) := fun h => by
    have h' : lN n = lN 0 := h
    rw [L_eq (by omega) (by omega)] at h'; omega
  unfold nzl
  rw [if_neg hnz, dv_all ⟨x, by omega⟩ ⟨n, hn2⟩ hn1]
  simp only
  generalize hc : x * (27720 / n) = c
  have c0 : 0 < c := by rw [← hc]; exact Nat.mul_pos hx1 a2
  have c9 : c < 1000000 := by
    have : x * (27720 / n) ≤ 20 * 27720 := Nat.mul_le_mul hx a3
    omega
  refine X12_arr_L hB ct (nI s) (nI e) I J ps hok p c c9 wt hp hlt h3 r3 hwo r2 _ _ ?_ bgf 0 (by omega) (by unfold bgf; omega) I J ⟨fun k hk => by simpa using r1 k hk, fun hct k hk => by simpa using ((r4 hct).1 k hk), Sm.rf, Sm.rf⟩
  intro I1 J1 hI1
  obtain ⟨i1, i2, i3, i4⟩ := hI1
  rw [List.take_length] at i1 i2
  have k1 : ∀ k, k < bL B → J1 m_light k = lN (liT (ps ++ [(s, p, e, c)]) k) := fun k hk => by rw [i1 k hk, liT_a, liT_1]
  have q2 : I1 m_self f_Model_isCounted = b1 ct := by rw [i3 _ _ rfl]; exact r2
  have q3 : I1 m_self f_Model_asked = wtI wt := by rw [i3 _ _ rfl]; exact r3
  simp only [lit32, q2, b1_0]
  cases hcc : ct with
  | false =>
    rw [if_pos rfl]
    rw [hcc] at q2
    exact Ok.mk ⟨k1, q2, q3, fun h => by cases h⟩
  | true =>
    rw [if_neg (by simp)]
    rw [hcc] at q2
    obtain ⟨t1, t2, t3⟩ := r4 hcc
    simp (disch := omega) only [n_bx, n_cl]
    generalize hJ3 : uj (uj J1 m_drawn s (J1 m_drawn s + lN c)) m_drawn e (uj J1 m_drawn s (J1 m_drawn s + lN c) m_drawn e + lN c) = J3
    have s3 : Sm [(m_drawn, none)] J1 J3 := by rw [← hJ3]; exact Sm.mj rfl (Sm.mj rfl Sm.rf)
    have k1' : ∀ k, k < bL B → J3 m_light k = lN (liT (ps ++ [(s, p, e, c)]) k) := fun k hk => by rw [s3 _ _ rfl]; exact k1 k hk
    have k2 : ∀ k, k < bL B → I1 m_through k = nI (ctT (ps ++ [(s, p, e, c)]) k) ∧ J3 m_mostOne k = lN (mxT (ps ++ [(s, p, e, c)]) k) := fun k hk => by
      obtain ⟨u1, u2⟩ := i2 hcc k hk
      refine ⟨by rw [u1, ctT_a, ctT_1], ?_⟩
      rw [s3 _ _ rfl, u2, mxT_a]; rfl
    have k3 : ∀ w, w < bW B → J3 m_drawn w = lN (drT (ps ++ [(s, p, e, c)]) w) := fun w hw => by
      have q0 : ∀ w, w < bW B → J1 m_drawn w = lN (drT ps w) := fun w hw => by rw [i4 _ _ rfl]; exact t2 w hw
      rw [← hJ3, uj_s, uj_s, uj_s, drT_a, drT_1]
      simp only
      by_cases c1 : w = e
      · rw [if_pos c1]
        by_cases c2 : e = s
        · subst c1; subst c2
          simp only [if_true]
          rw [q0 w hw, lN_add, lN_add, Nat.add_assoc]
        · subst c1
          have c3 : ¬ s = w := fun h => c2 h.symm
          rw [if_neg c2, if_neg c3, if_pos rfl, q0 w hw, lN_add, Nat.zero_add]
      · rw [if_neg c1]
        have c1' : ¬ e = w := fun h => c1 h.symm
        by_cases c2 : w = s
        · subst c2
          rw [if_pos rfl, if_pos rfl, if_neg c1', q0 w hw, lN_add, Nat.add_zero]
        · have c3 : ¬ s = w := fun h => c2 h.symm
          rw [if_neg c2, if_neg c3, if_neg c1', q0 w hw]
          simp
    cases hwt : wt with
    | none =>
      rw [if_pos (by rw [any_wt])]
      rw [hwt] at q3
      exact Ok.mk ⟨k1', q2, q3, fun _ => ⟨k2, k3, fun a h => by cases h⟩⟩
    | some a =>
      rw [hwt] at q3
      have t3 := t3 a hwt
      obtain ⟨v1, v2, v3⟩ := bsT_ok a ps hok
      have hb3 : bsM (bsT a ps) I1 J3 := ⟨by rw [s3 _ _ rfl, i4 _ _ rfl]; exact t3.1, fun h0 => by
        obtain ⟨z1, z2⟩ := t3.2 h0
        exact ⟨by rw [i3 _ _ rfl]; exact z1, fun k hk => by rw [i3 _ _ rfl]; exact z2 k hk⟩⟩
      have hp1 : wP p I1 := fun k hk => by rw [i3 _ _ rfl]; exact hp k hk
      cases hcn : p.contains a with
      | false =>
        rw [if_pos (by rw [any_wt]; exact hcn)]
        refine Ok.mk ?_
        dsimp only
        refine ⟨k1', q2, q3, fun _ => ⟨k2, k3, fun a' h => ?_⟩⟩
        cases h
        rw [bsT_a]
        have : bs1 a (bsT a ps) (s, p, e, c) = bsT a ps := by unfold bs1; simp only [hcn]; simp
        rw [this]; exact hb3
      | true =>
        rw [if_neg (by rw [any_wt]; simp only [hcn]; simp), X12_better p c (bsT a ps) I1 J3 hp1 h3 v1 hlt6 v2 c0 c9 v3 hb3]
        simp only [Option.bind_some]
        have hbs : bsT a (ps ++ [(s, p, e, c)]) = (if btr c p (bsT a ps).1 (bsT a ps).2 then (c, p) else bsT a ps) := by
          rw [bsT_a]; unfold bs1; simp only [hcn, Bool.true_and]
        cases hbt : btr c p (bsT a ps).1 (bsT a ps).2 with
        | false =>
          rw [if_pos (by decide)]
          refine Ok.mk ?_
          dsimp only
          refine ⟨k1', q2, q3, fun _ => ⟨k2, k3, fun a' h => ?_⟩⟩
          cases h
          rw [hbs, hbt]; exact hb3
        | true =>
          rw [if_neg (by decide)]
          refine (X12_arr_L2 p (ui I1 m_self f_Model_bestMany (nI p.length)) (uj J3 m_self f_Model_bestCarry (lN c)) (fun k hk => by rw [ui_c (by decide)]; exact hp1 k hk) h3 bgf 0 (by omega) (by unfold bgf; omega) _ ⟨fun k hk => by omega, Sm.rf⟩).mono (fun q hq => ?_)
          obtain ⟨z1, z2, z3⟩ := hq
          rw [z1]
          refine ⟨fun k hk => by rw [uj_c (by decide)]; exact k1' k hk, by rw [z3 _ _ rfl, ui_j (by decide)]; exact q2, by rw [z3 _ _ rfl, ui_j (by decide)]; exact q3, fun _ => ⟨fun k hk => ?_, fun w hw => by rw [uj_c (by decide)]; exact k3 w hw, fun a' h => ?_⟩⟩
          · rw [z3 _ _ rfl, ui_c (by decide), uj_c (by decide)]; exact k2 k hk
          · cases h
            rw [hbs, hbt, if_pos rfl]
            exact ⟨by rw [uj_r], fun _ => ⟨by rw [z3 _ _ rfl, ui_r], z2⟩⟩

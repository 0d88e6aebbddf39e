/-! LAYER 2: the class's lay, cut, join, turn -/
def LA (B : Bd) (h l : Int32) (I : HI) (J : HJ) : Prop :=
  I x_flow f_Flow_high = h ∧ I x_flow f_Flow_low = l ∧ I x_flow f_Flow_turned = -nI 1 ∧ I x_flow f_Flow_joined = -nI 1 ∧
  (∀ w, w < bW B → I x_flow_ohms w = nI (bO B w)) ∧
  (∀ w, w < bW B → ∀ k, bt (J x_flow_out w) k = (decide (k < bL B) && decide (bA B k = w)) ∧ bt (J x_flow_into w) k = (decide (k < bL B) && decide (bG B k = w)))
theorem X1_lay {B : Bd} (hB : OkB B) (h l : Int32) (I : HI) (J : HJ) (hX : XB B I J) : Ok (F_X1_lay h l I J) (fun q => LA B h l q.2.1 q.2.2) := by
  have hW := hB.2.1
  obtain ⟨x1, x2, x3, x4, x5, x6, x7, x8⟩ := hX
  unfold F_X1_lay
  refine Ok.lbv (Ok.lbv (Ok.lbv (Ok.lbv (Ok.f (by decide) (Ok.lbv (Ok.f (by decide) (Ok.lbv (Ok.f (by decide) (Ok.lbv (Ok.mk ?_))))))))))
  dsimp only
  simp only [k0c, k10c]
  refine ⟨?_, ?_, ?_, ?_, fun w hw => ?_, fun w hw k => ?_⟩
  · rw [uf_c (by decide), ui_j (by decide), ui_j (by decide), ui_j (by decide), ui_r]
  · rw [uf_c (by decide), ui_j (by decide), ui_j (by decide), ui_r]
  · rw [uf_c (by decide), ui_j (by decide), ui_r]; rfl
  · rw [uf_c (by decide), ui_r]; rfl
  · rw [uf_r, cpy_at (by omega), ui_c (by decide), ui_c (by decide), ui_c (by decide), ui_c (by decide)]; exact x6 w (by omega)
  · rw [ufj_c (by decide), ufj_r, ufj_r, cpy_at (by omega), cpy_at (by omega), ufj_c (by decide)]; exact x8 w (by omega) k
theorem XB.fx {B : Bd} {I I' : HI} {J J' : HJ} (h : XB B I J) (a : Ag rdXBi I I') (b : Ag rdXBj J J') : XB B I' J' := h.keep a b
theorem gl1_0 {I : HI} {l g : Nat} (hg : g < 64) (h1 : I x_flow f_Flow_turned = -nI 1) (h2 : I x_flow f_Flow_joined = -nI 1) (h3 : I x_board_goal l = nI g) (hl : l < 64) : gl1 I l = nI g := by
  have e : gl0 I l = nI g := by
    unfold gl0
    rw [h1, h3, if_neg (by rw [n_ne1 (by omega)]; simp)]
  unfold gl1
  rw [e, h2, if_neg (by rw [n_ne1 (by omega)]; simp)]
theorem FX_0 {B : Bd} (hB : OkB B) (a b : Nat) (h l : Int32) (I : HI) (J : HJ) (hX : XB B I J) (hL : LA B h l I J) : FX B (ed B 0 a b) (hiE 0 a b (bi h)) (hiE 0 a b (bi l)) (ohE B 0 a b (bi h) (bi l)) I J := by
  obtain ⟨x1, x2, x3, x4, x5, x6, x7, x8⟩ := hX
  obtain ⟨l1, l2, l3, l4, l5, l6⟩ := hL
  have h60 := hB.2.2.1
  refine ⟨x1, x2, x3, x4, x5, fun k hk => (x7 k hk).2.2, fun w hw => by rw [l5 w hw]; simp [ohE], fun k w v hk he => ?_, fun w hw v hv k => ?_, fun w hw => by rw [l1, l2]; simp [hiE]⟩
  · simp [ed] at he
    have := hB.2.2.2.2.2.2.2.2.2 k hk
    rw [← he.2]
    exact gl1_0 (by have := hB.2.1; omega) l3 l4 (x7 k hk).2.1 (by omega)
  · rw [(l6 w hw k).1, (l6 v hv k).2]
    simp only [ed]
    by_cases c : k < bL B
    · simp [c]
    · simp [c]
theorem X1_cut {B : Bd} (hB : OkB B) (a b : Nat) (ha : a < bW B) (h l : Int32) (I : HI) (J : HJ) (hX : XB B I J) (hL : LA B h l I J) : Ok (F_X1_cut (nI a) I J) (fun q => FX B (ed B 1 a b) (hiE 1 a b (bi h)) (hiE 1 a b (bi l)) (ohE B 1 a b (bi h) (bi l)) q.2.1 q.2.2) := by
  obtain ⟨x1, x2, x3, x4, x5, x6, x7, x8⟩ := hX
  obtain ⟨l1, l2, l3, l4, l5, l6⟩ := hL
  have h60 := hB.2.2.1
  have hW := hB.2.1
  unfold F_X1_cut
  simp (disch := omega) only [n_bx, n_cl, lb, litL]
  refine Ok.mk ?_
  dsimp only
  refine ⟨x1, x2, x3, x4, x5, fun k hk => (x7 k hk).2.2, fun w hw => by rw [l5 w hw]; simp [ohE], fun k w v hk he => ?_, fun w hw v hv k => ?_, fun w hw => by rw [l1, l2]; simp [hiE]⟩
  · simp only [ed, if_true] at he
    have := hB.2.2.2.2.2.2.2.2.2 k hk
    split at he
    · cases he
    · simp only [Option.some.injEq, Prod.mk.injEq] at he
      rw [← he.2]
      exact gl1_0 (by omega) l3 l4 (x7 k hk).2.1 (by omega)
  · skip
    rw [uj_c (by decide), uj_s, uj_s, uj_c (by decide)]
    have e1 : bt (if w = a then lN 0 else J x_flow_out w) k = (decide (k < bL B) && decide (bA B k = w) && !decide (w = a)) := by
      by_cases c : w = a
      · rw [if_pos c, bt_z]; simp [c]
      · rw [if_neg c, (l6 w hw k).1]; simp [c]
    have e2 : bt (if v = a then lN 0 else J x_flow_into v) k = (decide (k < bL B) && decide (bG B k = v) && !decide (v = a)) := by
      by_cases c : v = a
      · rw [if_pos c, bt_z]; simp [c]
      · rw [if_neg c, (l6 v hv k).2]; simp [c]
    rw [e1, e2]
    simp only [ed, if_true]
    apply Bool.eq_iff_iff.mpr
    simp only [Bool.and_eq_true, decide_eq_true_eq, Bool.not_eq_true', decide_eq_false_iff_not]
    constructor
    · rintro ⟨⟨⟨g1, g2⟩, g3⟩, ⟨_, g4⟩, g5⟩
      refine ⟨g1, ?_⟩
      rw [if_neg (by omega), g2, g4]
    · rintro ⟨g1, g2⟩
      split at g2
      · cases g2
      · rename_i c
        simp only [Option.some.injEq, Prod.mk.injEq] at g2
        omega
theorem X1_turn {B : Bd} (hB : OkB B) (a b : Nat) (ha : a < bL B) (h l : Int32) (I : HI) (J : HJ) (hX : XB B I J) (hL : LA B h l I J) : Ok (F_X1_turn (nI a) I J) (fun q => FX B (ed B 3 a b) (hiE 3 a b (bi h)) (hiE 3 a b (bi l)) (ohE B 3 a b (bi h) (bi l)) q.2.1 q.2.2) := by
  obtain ⟨x1, x2, x3, x4, x5, x6, x7, x8⟩ := hX
  obtain ⟨l1, l2, l3, l4, l5, l6⟩ := hL
  have h60 := hB.2.2.1
  have hW := hB.2.1
  obtain ⟨y1, y2, y3⟩ := x7 a ha
  obtain ⟨z1, z2, z3, _⟩ := hB.2.2.2.2.2.2.2.2.2 a ha
  unfold F_X1_turn
  simp (disch := omega) only [n_bx, n_cl, lb, y1, y2]
  have sI : Sm [(x_flow, some f_Flow_turned)] I (ui I x_flow f_Flow_turned (nI a)) := Sm.mi rfl Sm.rf
  refine Ok.mk ?_
  dsimp only
  refine ⟨by rw [sI _ _ rfl]; exact x1, by rw [sI _ _ rfl]; exact x2, by rw [sI _ _ rfl]; exact x3, by rw [sI _ _ rfl]; exact x4, by rw [sI _ _ rfl]; exact x5, fun k hk => by rw [sI _ _ rfl]; exact (x7 k hk).2.2, fun w hw => by rw [sI _ _ rfl, l5 w hw]; simp [ohE], fun k w v hk he => ?_, fun w hw v hv k => ?_, fun w hw => by rw [sI _ _ rfl, sI _ _ rfl, l1, l2]; simp [hiE]⟩
  · skip
    obtain ⟨q1, q2, _⟩ := x7 k hk
    obtain ⟨w1, w2, _⟩ := hB.2.2.2.2.2.2.2.2.2 k hk
    unfold gl1 gl0
    rw [ui_r, ui_c (by decide), ui_c (by decide), ui_j (by decide), l4, q1, q2]
    simp (disch := omega) only [n_eq]
    simp only [ed] at he
    by_cases c : k = a
    · simp [c] at he
      rw [if_pos c, if_neg (by rw [n_ne1 (by omega)]; simp), ← he.2, c]
    · simp [c] at he
      rw [if_neg c, if_neg (by rw [n_ne1 (by omega)]; simp), he.2]
  · skip
    simp only [uj_c (show x_flow_into ≠ x_flow_out by decide), uj_c (show x_flow_out ≠ x_flow_into by decide), uj_s]
    by_cases ck : k < 64
    · have e1 : bt (if w = bG B a then (if bG B a = bA B a then J x_flow_out (bA B a) &&& (olshl (1 : Int64) (nI a) ^^^ (-1 : Int64)) else J x_flow_out (bG B a)) ||| olshl (1 : Int64) (nI a) else if w = bA B a then J x_flow_out (bA B a) &&& (olshl (1 : Int64) (nI a) ^^^ (-1 : Int64)) else J x_flow_out w) k = (decide (k < bL B) && decide ((if k = a then bG B k else bA B k) = w)) := by
        by_cases c1 : w = bG B a
        · rw [if_pos c1, if_neg (by omega), bt_or, litL, t_one (by omega), (l6 _ z2 k).1, c1]
          by_cases c2 : k = a
          · subst c2; simp [ha]
          · simp [c2]
        · rw [if_neg c1]
          by_cases c3 : w = bA B a
          · rw [if_pos c3, bt_and, bt_not ck, litL, t_one (by omega), (l6 _ z1 k).1, c3]
            by_cases c2 : k = a
            · subst c2; simp; intro _; omega
            · simp [c2]
          · rw [if_neg c3, (l6 w hw k).1]
            by_cases c2 : k = a
            · subst c2
              have d1 : ¬ bA B k = w := fun h => c3 h.symm
              have d2 : ¬ bG B k = w := fun h => c1 h.symm
              simp [d1, d2]
            · simp [c2]
      have e2 : bt (if v = bA B a then (if bA B a = bG B a then J x_flow_into (bG B a) &&& (olshl (1 : Int64) (nI a) ^^^ (-1 : Int64)) else J x_flow_into (bA B a)) ||| olshl (1 : Int64) (nI a) else if v = bG B a then J x_flow_into (bG B a) &&& (olshl (1 : Int64) (nI a) ^^^ (-1 : Int64)) else J x_flow_into v) k = (decide (k < bL B) && decide ((if k = a then bA B k else bG B k) = v)) := by
        by_cases c1 : v = bA B a
        · rw [if_pos c1, if_neg (by omega), bt_or, litL, t_one (by omega), (l6 _ z1 k).2, c1]
          by_cases c2 : k = a
          · subst c2; simp [ha]
          · simp [c2]
        · rw [if_neg c1]
          by_cases c3 : v = bG B a
          · rw [if_pos c3, bt_and, bt_not ck, litL, t_one (by omega), (l6 _ z2 k).2, c3]
            by_cases c2 : k = a
            · subst c2; simp; intro _; omega
            · simp [c2]
          · rw [if_neg c3, (l6 v hv k).2]
            by_cases c2 : k = a
            · subst c2
              have d1 : ¬ bG B k = v := fun h => c3 h.symm
              have d2 : ¬ bA B k = v := fun h => c1 h.symm
              simp [d1, d2]
            · simp [c2]
      rw [e1, e2]
      simp only [ed]
      by_cases c2 : k = a
      · subst c2; simp [ha]
      · by_cases c : k < bL B
        · simp [c2, c]
        · simp [c]
    · rw [bt_big (by omega)]
      have : ¬ k < bL B := by omega
      simp [this]
theorem both0 {x : Int32} {a b : Nat} (ha : a < 32) (hb : b < 32) : (x &&& (oshl (nI 1) (nI a) ||| oshl (nI 1) (nI b)) = nI 0) ↔ (bi x a = false ∧ bi x b = false) := by
  constructor
  · intro h
    constructor
    · have := congrArg (fun y => bi y a) h
      simp only [bi_and, bi_or, t_ione ha, bi_z] at this
      simpa using this
    · have := congrArg (fun y => bi y b) h
      simp only [bi_and, bi_or, t_ione hb, bi_z] at this
      simpa using this
  · rintro ⟨h1, h2⟩
    apply bi_ext
    intro k _
    rw [bi_and, bi_or, t_ione ha, t_ione hb, bi_z]
    by_cases c1 : k = a
    · subst c1; simp [h1]
    · by_cases c2 : k = b
      · subst c2; simp [h2]
      · simp [c1, c2]
theorem one0 {x : Int32} {a : Nat} (ha : a < 32) : (x &&& (oshl (nI 1) (nI a)) = nI 0) ↔ bi x a = false := by
  constructor
  · intro h
    have := congrArg (fun y => bi y a) h
    simp only [bi_and, t_ione ha, bi_z] at this
    simpa using this
  · intro h1
    apply bi_ext
    intro k _
    rw [bi_and, t_ione ha, bi_z]
    by_cases c1 : k = a
    · subst c1; simp [h1]
    · simp [c1]
theorem jn_1 {x : Int32} {a b w : Nat} (ha : a < 32) (hb : b < 32) (hab : a ≠ b) (hw : w < 32) (h : ¬ (bi x a = false ∧ bi x b = false)) : bi ((x &&& ((oshl (nI 1) (nI a) ||| oshl (nI 1) (nI b)) ^^^ (-nI 1))) ||| oshl (nI 1) (nI a)) w = hiE 2 a b (bi x) w := by
  rw [bi_or, bi_and, bi_nt hw, bi_or, t_ione ha, t_ione hb]
  unfold hiE
  simp only [if_true]
  have h' : (bi x a || bi x b) = true := by
    cases h1 : bi x a <;> cases h2 : bi x b <;> simp_all
  by_cases c1 : w = b
  · have : ¬ w = a := by omega
    have hba : ¬ b = a := by omega
    subst c1; simp [hba]
  · by_cases c2 : w = a
    · subst c2; rw [if_neg c1, if_pos rfl, h']; simp
    · simp [c1, c2]
theorem jn_0 {x : Int32} {a b w : Nat} (h : bi x a = false ∧ bi x b = false) : bi x w = hiE 2 a b (bi x) w := by
  unfold hiE
  simp only [if_true]
  by_cases c1 : w = b
  · subst c1; simp [h.2]
  · by_cases c2 : w = a
    · subst c2; simp [c1, h.1, h.2]
    · simp [c1, c2]

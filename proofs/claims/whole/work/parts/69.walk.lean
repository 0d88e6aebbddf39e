/-! LAYER 2: the class's paths, all of them -/
def gl0 (I : HI) (l : Nat) : Int32 := if nI l = I x_flow f_Flow_turned then I x_board_from l else I x_board_goal l
def gl1 (I : HI) (l : Nat) : Int32 := if gl0 I l = I x_flow f_Flow_joined then I x_flow f_Flow_joinedTo else gl0 I l
theorem X1_goal {l : Nat} (h : l < 64) (I : HI) (J : HJ) : F_X1_goalOf (nI l) I J = some (gl1 I l) := by
  unfold F_X1_goalOf
  simp (disch := omega) only [lb, n_bx, n_cl]
  by_cases c : nI l = I x_flow f_Flow_turned
  · have e : gl0 I l = I x_board_from l := by unfold gl0; rw [if_pos c]
    rw [if_pos c]; unfold gl1; rw [e]
    split <;> rfl
  · have e : gl0 I l = I x_board_goal l := by unfold gl0; rw [if_neg c]
    rw [if_neg c]; unfold gl1; rw [e]
    split <;> rfl
def EO (B : Bd) (e : Nat → Option (Nat × Nat)) (hi lo : Nat → Bool) (o : Nat → Nat) : Prop :=
  (∀ l w v, l < bL B → e l = some (w, v) → w < bW B ∧ v < bW B ∧ w ≠ v) ∧ (∀ w, (hi w && lo w) = false) ∧ (∀ w, w < bW B → o w ≤ 4)
def CX (B : Bd) (e : Nat → Option (Nat × Nat)) (hi lo : Nat → Bool) (o : Nat → Nat) (I : HI) (J : HJ) : Prop :=
  I x_board f_Board_wide = nI (bW B) ∧ I x_board f_Board_supply = nI (bS B) ∧ I x_board f_Board_depth = nI (bD B) ∧ (∀ l, l < bL B → I x_board_volts l = nI (bV B l)) ∧
  (∀ w, w < bW B → I x_flow_ohms w = nI (o w)) ∧
  (∀ l w v, l < bL B → e l = some (w, v) → gl1 I l = nI v) ∧
  (∀ w, w < bW B → ∀ v, v < bW B → ∀ l, (bt (J x_flow_out w) l && bt (J x_flow_into v) l) = (decide (l < bL B) && decide (e l = some (w, v)))) ∧
  (∀ l, bt (J x_flow f_Flow_toLow) l = (List.range (bW B)).any (fun v => lo v && bt (J x_flow_into v) l)) ∧
  (∀ l, bt (J x_flow f_Flow_toFree) l = (List.range (bW B)).any (fun v => !lo v && !hi v && bt (J x_flow_into v) l))
def rdCXi : Pl := [(x_board, none), (x_board_volts, none), (x_board_from, none), (x_board_goal, none), (x_flow_ohms, none), (x_flow, some f_Flow_turned), (x_flow, some f_Flow_joined), (x_flow, some f_Flow_joinedTo)]
def rdCXj : Pl := [(x_flow_out, none), (x_flow_into, none), (x_flow, some f_Flow_toLow), (x_flow, some f_Flow_toFree)]
theorem gl1_k {I I' : HI} {l : Nat} (a : Ag rdCXi I I') : gl1 I' l = gl1 I l := by
  unfold gl1 gl0
  rw [a x_flow f_Flow_turned rfl, a x_flow f_Flow_joined rfl, a x_flow f_Flow_joinedTo rfl, a x_board_from l rfl, a x_board_goal l rfl]
theorem CX.keep {B : Bd} {e : Nat → Option (Nat × Nat)} {hi lo : Nat → Bool} {o : Nat → Nat} {I I' : HI} {J J' : HJ} (h : CX B e hi lo o I J) (a : Ag rdCXi I I') (b : Ag rdCXj J J') : CX B e hi lo o I' J' := by
  obtain ⟨h1, h2, h3, h4, h5, h6, h7, h8, h9⟩ := h
  refine ⟨by rw [a _ _ rfl]; exact h1, by rw [a _ _ rfl]; exact h2, by rw [a _ _ rfl]; exact h3, fun l hl => by rw [a _ _ rfl]; exact h4 l hl, fun w hw => by rw [a _ _ rfl]; exact h5 w hw, fun l w v hl he => by rw [gl1_k a]; exact h6 l w v hl he, fun w hw v hv l => ?_, fun l => ?_, fun l => ?_⟩
  · rw [b x_flow_out _ rfl, b x_flow_into _ rfl]; exact h7 w hw v hv l
  · rw [b x_flow _ rfl, h8]
    have : ∀ v, J' x_flow_into v = J x_flow_into v := fun v => b _ _ rfl
    simp only [this]
  · rw [b x_flow _ rfl, h9]
    have : ∀ v, J' x_flow_into v = J x_flow_into v := fun v => b _ _ rfl
    simp only [this]
theorem any_or2 {α : Type} (l : List α) (p q : α → Bool) : (l.any p || l.any q) = l.any (fun x => p x || q x) := by
  induction l with
  | nil => rfl
  | cons a l ih =>
    rw [List.any_cons, List.any_cons, List.any_cons, ← ih]
    cases p a <;> cases q a <;> cases l.any p <;> cases l.any q <;> rfl
section CXS
variable {B : Bd} {e : Nat → Option (Nat × Nat)} {hi lo : Nat → Bool} {o : Nat → Nat} {I : HI} {J : HJ}
def nxL (e : Nat → Option (Nat × Nat)) (q : Nat → Bool) (w l : Nat) : Bool := match e l with | none => false | some (u, v) => decide (u = w) && q v
theorem CX.mk (hE : EO B e hi lo o) (h : CX B e hi lo o I J) {w : Nat} (hw : w < bW B) (q : Nat → Bool) (l : Nat) (x : Int64) (hx : bt x l = (List.range (bW B)).any (fun v => q v && bt (J x_flow_into v) l)) : (bt (J x_flow_out w) l && bt x l) = (decide (l < bL B) && nxL e q w l) := by
  obtain ⟨_, _, _, _, _, _, h7, _, _⟩ := h
  rw [hx]
  apply Bool.eq_iff_iff.mpr
  simp only [Bool.and_eq_true, List.any_eq_true, List.mem_range, decide_eq_true_eq, nxL]
  constructor
  · rintro ⟨g1, v, hv, g2, g3⟩
    have := h7 w hw v hv l
    rw [g1, g3] at this
    simp only [Bool.and_self] at this
    have t := this.symm
    simp only [Bool.and_eq_true, decide_eq_true_eq] at t
    refine ⟨t.1, ?_⟩
    rw [t.2]
    simp [g2]
  · rintro ⟨hl, g⟩
    cases he : e l with
    | none => rw [he] at g; simp at g
    | some uv =>
      obtain ⟨u, v⟩ := uv
      rw [he] at g
      simp only [Bool.and_eq_true, decide_eq_true_eq] at g
      obtain ⟨g1, g2⟩ := g
      subst g1
      have hv := (hE.1 l u v hl he).2.1
      have := h7 u hw v hv l
      rw [he] at this
      simp only [hl, decide_true, Bool.and_self, Bool.and_eq_true] at this
      exact ⟨this.1, v, hv, g2, this.2⟩
theorem nxL_congr {q q' : Nat → Bool} (h : ∀ v, q v = q' v) (w l : Nat) : nxL e q w l = nxL e q' w l := by
  unfold nxL; cases e l with
  | none => rfl
  | some uv => obtain ⟨u, v⟩ := uv; simp only [h v]
/-- the lamps that follow may take from a wire -/
theorem CX.left (hE : EO B e hi lo o) (h : CX B e hi lo o I J) (hL : bL B ≤ 64) {w : Nat} (hw : w < bW B) : bits (J x_flow_out w &&& (J x_flow f_Flow_toLow ||| J x_flow f_Flow_toFree)) = (List.range (bL B)).filter (nxL e (fun v => !hi v) w) ∧ bits (J x_flow_out w &&& J x_flow f_Flow_toLow) = (List.range (bL B)).filter (nxL e lo w) := by
  have h8 := h.2.2.2.2.2.2.2.1
  have h9 := h.2.2.2.2.2.2.2.2
  constructor
  · unfold bits
    rw [← rng_filter (n := bL B) (m := 64) (by omega) (nxL e (fun v => !hi v) w)]
    apply List.filter_congr
    intro l _
    rw [bt_and]
    refine CX.mk hE h hw (fun v => !hi v) l _ ?_
    rw [bt_or, h8, h9, any_or2]
    congr 1
    funext v
    have := hE.2.1 v
    revert this
    generalize bt (J x_flow_into v) l = z
    cases hi v <;> cases lo v <;> cases z <;> decide
  · unfold bits
    rw [← rng_filter (n := bL B) (m := 64) (by omega) (nxL e lo w)]
    apply List.filter_congr
    intro l _
    rw [bt_and]
    exact CX.mk hE h hw lo l _ (h8 l)
theorem CX.low (hE : EO B e hi lo o) (h : CX B e hi lo o I J) {l w v : Nat} (hl : l < bL B) (he : e l = some (w, v)) : bt (J x_flow f_Flow_toLow) l = lo v := by
  obtain ⟨hw, hv, _⟩ := hE.1 l w v hl he
  have h7 := h.2.2.2.2.2.2.1 w hw v hv l
  rw [he] at h7
  simp only [hl, decide_true, Bool.and_self, Bool.and_eq_true] at h7
  have := CX.mk hE h hw lo l _ (h.2.2.2.2.2.2.2.1 l)
  rw [h7.1, Bool.true_and] at this
  rw [this]
  unfold nxL; rw [he]; simp [hl]
end CXS
/-- what one lamp more gives -/
def stW (B : Bd) (e : Nat → Option (Nat × Nat)) (hi lo : Nat → Bool) (n w s : Nat) (p : List Nat) (l : Nat) : List (List Nat × Nat × Nat) :=
  match e l with
  | none => []
  | some (u, v) => if u = w ∧ hi v = false ∧ s + bV B l < bS B then
      (if lo v = true then [(p ++ [l], v, bS B - (s + bV B l))] else wk B e hi lo n v (s + bV B l) (p ++ [l])) else []
theorem wk_s (B : Bd) (e : Nat → Option (Nat × Nat)) (hi lo : Nat → Bool) (n w s : Nat) (p : List Nat) : wk B e hi lo (n + 1) w s p = (List.range (bL B)).flatMap (stW B e hi lo n w s p) := rfl
theorem wk_f {B : Bd} {e : Nat → Option (Nat × Nat)} {hi lo : Nat → Bool} (hd : ∀ w, (hi w && lo w) = false) (n w s : Nat) (p : List Nat) : wk B e hi lo (n + 1) w s p = ((List.range (bL B)).filter (nxL e (fun v => !hi v) w)).flatMap (stW B e hi lo n w s p) ∧ (n = 0 → wk B e hi lo (n + 1) w s p = ((List.range (bL B)).filter (nxL e lo w)).flatMap (stW B e hi lo n w s p)) := by
  constructor
  · rw [wk_s, filter_fm]
    congr 1
    funext l
    unfold nxL stW
    cases e l with
    | none => simp
    | some uv =>
      obtain ⟨u, v⟩ := uv
      simp only
      by_cases c : u = w
      · cases h : hi v <;> simp [c, h]
      · simp [c]
  · intro hn
    subst hn
    rw [wk_s, filter_fm]
    congr 1
    funext l
    unfold nxL stW
    cases e l with
    | none => simp
    | some uv =>
      obtain ⟨u, v⟩ := uv
      simp only
      by_cases c : u = w
      · have := hd v
        cases h : lo v
        · simp [c, h, wk]
        · simp [c, h]
      · simp [c]
/-- all that is walked is in its bounds -/
theorem wk_ok {B : Bd} (hB : OkB B) {e : Nat → Option (Nat × Nat)} {hi lo : Nat → Bool} {o : Nat → Nat} (hE : EO B e hi lo o) : ∀ n w s p, (∀ k, k ∈ p → k < 60) → ∀ q, q ∈ wk B e hi lo n w s p → q.1.length ≤ p.length + n ∧ 1 ≤ q.1.length ∧ (∀ k, k ∈ q.1 → k < 60) ∧ q.2.1 < bW B ∧ 1 ≤ q.2.2 ∧ q.2.2 ≤ 20 := by
  intro n
  induction n with
  | zero => intro w s p _ q hq; simp [wk] at hq
  | succ n ih =>
    intro w s p hp q hq
    rw [wk_s, List.mem_flatMap] at hq
    obtain ⟨l, hl, hq⟩ := hq
    rw [List.mem_range] at hl
    have hL := hB.2.2.1
    have hS := hB.2.2.2.2.1
    have hp' : ∀ k, k ∈ p ++ [l] → k < 60 := fun k hk => by
      rw [List.mem_append] at hk
      rcases hk with hk | hk
      · exact hp k hk
      · simp at hk; omega
    unfold stW at hq
    cases he : e l with
    | none => rw [he] at hq; simp at hq
    | some uv =>
      obtain ⟨u, v⟩ := uv
      rw [he] at hq
      simp only at hq
      obtain ⟨_, hv, _⟩ := hE.1 l u v hl he
      split at hq
      · rename_i c
        split at hq
        · simp only [List.mem_singleton] at hq
          subst hq
          refine ⟨by simp, by simp, hp', hv, by simp only; omega, by simp only; omega⟩
        · obtain ⟨a1, a2, a3⟩ := ih v (s + bV B l) (p ++ [l]) hp' q hq
          refine ⟨?_, a2, a3⟩
          rw [List.length_append] at a1
          simp at a1
          omega
      · simp at hq
theorem cy_ok {B : Bd} (hB : OkB B) {e : Nat → Option (Nat × Nat)} {hi lo : Nat → Bool} {o : Nat → Nat} (hE : EO B e hi lo o) {n w s s0 : Nat} {p : List Nat} (hs : s0 < bW B) (h3 : p.length + n ≤ 3) (hp : ∀ k, k ∈ p → k < 60) : ∀ q, q ∈ (wk B e hi lo n w s p).map (cy o s0) → okP q := by
  intro q hq
  obtain ⟨r, hr, rfl⟩ := List.mem_map.mp hq
  obtain ⟨a1, a2, a3, a4, a5, a6⟩ := wk_ok hB hE n w s p hp r hr
  have hW := hB.2.1
  have o1 := hE.2.2 s0 hs
  have o2 := hE.2.2 _ a4
  unfold cy okP
  simp only
  generalize hm : o s0 + o r.2.1 + r.1.length = m
  have m1 : 1 ≤ m := by omega
  have m2 : m < 12 := by omega
  obtain ⟨_, d1, d2⟩ := sh_all ⟨m, m2⟩ m1
  simp only at d1 d2
  refine ⟨by omega, by omega, by omega, a3, Nat.mul_pos a5 d1, ?_⟩
  have := Nat.mul_le_mul a6 d2
  omega

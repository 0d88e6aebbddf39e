/-! LAYER 2: the class's follow, run -/
def fwQ (B : Bd) (e : Nat → Option (Nat × Nat)) (hi lo : Nat → Bool) (o : Nat → Nat) (wt : Option Nat) (ps : List Pa) (p : List Nat) (q : Unit × HI × HJ) : Prop := RX wt ps q.2.1 q.2.2 ∧ wWay p q.2.1 ∧ CX B e hi lo o q.2.1 q.2.2
theorem wWay_k {p : List Nat} {I I' : HI} (h : wWay p I) (a : ∀ k, k < p.length → I' x_flow_way k = I x_flow_way k) : wWay p I' := fun k hk => by rw [a k hk]; exact h k hk
theorem getD_app {p : List Nat} {l k : Nat} (h : k < p.length) : (p ++ [l]).getD k 0 = p.getD k 0 := by
  simp [List.getD, List.getElem?_append_left h]
theorem getD_appL {p : List Nat} {l : Nat} : (p ++ [l]).getD p.length 0 = l := by simp [List.getD]
theorem wWay_u {p : List Nat} {l : Nat} {I : HI} (h : wWay p I) : wWay (p ++ [l]) (ui I x_flow_way p.length (nI l)) := fun k hk => by
  rw [List.length_append, List.length_singleton] at hk
  rw [ui_s]
  by_cases c : k = p.length
  · subst c; rw [if_pos rfl, getD_appL]
  · rw [if_neg c, getD_app (by omega)]; exact h k (by omega)
theorem X1_follow_L {B : Bd} (hB : OkB B) {e : Nat → Option (Nat × Nat)} {hi lo : Nat → Bool} {o : Nat → Nat} (hE : EO B e hi lo o) (wt : Option Nat) (hwo : wtOk wt) (s w n sm : Nat) (p : List Nat) (hs : s < bW B) (hw : w < bW B) (hp3 : p.length + 1 + n ≤ 3) (hp6 : ∀ k, k ∈ p → k < 60) (hsm : sm ≤ 20)
    (rc : Int32 → Int32 → Int32 → Int32 → HI → HJ → Option (Unit × HI × HJ))
    (hfr : ∀ a b c d I J, Fo wi_X1_follow wj_X1_follow I J (rc a b c d I J))
    (hrc : ∀ v sm' p' ps I J, v < bW B → p'.length = p.length + 1 → sm' ≤ 20 → (∀ k, k ∈ p' → k < 60) → (∀ q, q ∈ ps → okP q) → CX B e hi lo o I J → RX wt ps I J → wWay p' I → Ok (rc (nI s) (nI v) (nI p'.length) (nI sm') I J) (fwQ B e hi lo o wt (ps ++ (wk B e hi lo n v sm' p').map (cy o s)) p')) :
    ∀ ks K x I J ps, bits x = ks → ks.length < K → (∀ l, l ∈ ks → l < bL B ∧ ∃ v, e l = some (w, v) ∧ hi v = false) → (∀ q, q ∈ ps → okP q) → CX B e hi lo o I J → RX wt ps I J → wWay p I →
      Ok (F_X1_follow_L78 rc (nI s) (nI p.length) (nI sm) K x (nI ks.length) I J) (fwQ B e hi lo o wt (ps ++ (ks.flatMap (stW B e hi lo n w sm p)).map (cy o s)) p) := by
  have hL := hB.2.2.1
  have hS := hB.2.2.2.2.1
  intro ks
  induction ks with
  | nil =>
    intro K x I J ps hx hK _ _ hC hR hW
    cases K with
    | zero => omega
    | succ K =>
      rw [F_X1_follow_L78, if_pos (by decide)]
      refine Ok.mk ⟨?_, hW, hC⟩
      simpa using hR
  | cons l ks ih =>
    intro K x I J ps hx hK hks hok hC hR hW
    cases K with
    | zero => omega
    | succ K =>
      obtain ⟨b1', b2, b3⟩ := bits_cons hx
      obtain ⟨hl, v, hev, hhv⟩ := hks l (List.mem_cons_self ..)
      obtain ⟨_, hv, hwv⟩ := hE.1 l w v hl hev
      have hlen : (l :: ks).length = ks.length + 1 := rfl
      have hsz : (l :: ks).length ≤ 64 := by rw [← hx, bits_pc]; exact pcP_le 64 _
      rw [hlen] at hK hsz ⊢
      rw [F_X1_follow_L78, if_neg (n_z (by omega) (by omega)), b2]
      have hvl : I x_board_volts l = nI (bV B l) := hC.2.2.2.1 l hl
      have hV := (hB.2.2.2.2.2.2.2.2.2 l hl).2.2.2
      have hsp : I x_board f_Board_supply = nI (bS B) := hC.2.1
      simp (disch := omega) only [cp, Option.bind_some, lb, n_bx, n_cl, hvl, nI_add, hsp, n_lt, litL, lit32, cm0, t_u, if10L, n_m1, nI_1]
      have hst : stW B e hi lo n w sm p l = if sm + bV B l < bS B then (if lo v = true then [(p ++ [l], v, bS B - (sm + bV B l))] else wk B e hi lo n v (sm + bV B l) (p ++ [l])) else [] := by
        unfold stW; rw [hev]; simp only [hhv, true_and]
      rw [List.flatMap_cons, List.map_append, ← List.append_assoc]
      have hks' : ∀ l, l ∈ ks → l < bL B ∧ ∃ v, e l = some (w, v) ∧ hi v = false := fun l' h => hks l' (List.mem_cons_of_mem _ h)
      have hp6' : ∀ k, k ∈ p ++ [l] → k < 60 := fun k hk => by
        rw [List.mem_append] at hk
        rcases hk with hk | hk
        · exact hp6 k hk
        · simp at hk; omega
      have hlen' : (p ++ [l]).length = p.length + 1 := by simp
      by_cases c1 : sm + bV B l < bS B
      · rw [if_pos c1]
        rw [if_pos c1] at hst
        have hW1 : wWay (p ++ [l]) (ui I x_flow_way p.length (nI l)) := wWay_u hW
        have aI : Sm [(x_flow_way, none)] I (ui I x_flow_way p.length (nI l)) := Sm.mi rfl Sm.rf
        have hC1 : CX B e hi lo o (ui I x_flow_way p.length (nI l)) J := hC.keep (Ag.of aI (by decide)) (fun _ _ _ => rfl)
        have hR1 : RX wt ps (ui I x_flow_way p.length (nI l)) J := by
          obtain ⟨r1, r2, r3, r4, r5⟩ := hR
          refine ⟨r1, r2, r3, by rw [aI _ _ rfl]; exact r4, fun a ha => ?_⟩
          obtain ⟨t1, t2, t3, t4⟩ := r5 a ha
          exact ⟨by rw [aI _ _ rfl]; exact t1, t2, by rw [aI _ _ rfl]; exact t3, fun k hk => by rw [aI _ _ rfl]; exact t4 k hk⟩
        have hlow := CX.low hE hC hl hev
        have hgl := hC1.2.2.2.2.2.1 l w v hl hev
        rw [hlow, X1_goal (by omega), hgl]
        simp only [Option.bind_some]
        cases hlv : lo v with
        | false =>
          rw [if_pos rfl]
          rw [hlv] at hst
          simp only [Bool.false_eq_true, if_false] at hst
          have := (hrc v (sm + bV B l) (p ++ [l]) ps _ J hv hlen' (by omega) hp6' hok hC1 hR1 hW1).fo (hfr _ _ _ _ _ _)
          rw [hlen'] at this
          refine Ok.call this (fun r I2 J2 _ hP => ?_)
          obtain ⟨⟨q1, q2, q3⟩, q4, q5⟩ := hP
          simp only at q1 q2 q3 q4 q5
          rw [hst]
          refine ih K _ I2 J2 _ b3 (by omega) hks' ?_ q3 q1 ?_
          · intro q hq
            rw [List.mem_append] at hq
            rcases hq with hq | hq
            · exact hok q hq
            · exact cy_ok hB hE hs (by rw [hlen']; omega) hp6' q hq
          · intro k hk
            rw [q2 k (by omega), getD_app hk]
        | true =>
          rw [if_neg (by simp)]
          rw [hlv] at hst
          simp only [if_true] at hst
          have hsp1 : ui I x_flow_way p.length (nI l) x_board f_Board_supply = nI (bS B) := hC1.2.1
          rw [hsp1, n_sub (by omega)]
          have hos := hC1.2.2.2.2.1 s hs
          have hov := hC1.2.2.2.2.1 v hv
          have hW10 := hB.2.1
          have := (X1_carry wt ps s v (o s) (o v) (bS B - (sm + bV B l)) (p ++ [l]) _ J (by omega) (by omega) hos hov (hE.2.2 s hs) (hE.2.2 v hv) (by rw [hlen']; omega) (by rw [hlen']; omega) hp6' (by omega) (by omega) hW1 hwo hok hR1).fo (fr_X1_carry _ _ _ _ _ _)
          rw [hlen'] at this
          refine Ok.call this (fun r I2 J2 _ hP => ?_)
          obtain ⟨q1, q4, q5⟩ := hP
          simp only at q1 q4 q5
          have e1 : List.map (cy o s) (stW B e hi lo n w sm p l) = [(s, p ++ [l], v, (bS B - (sm + bV B l)) * (27720 / (o s + o v + (p.length + 1))))] := by
            rw [hst]; simp [cy]
          rw [e1]
          refine ih K _ I2 J2 _ b3 (by omega) hks' ?_ (hC1.keep (Ag.of q4 (by decide)) (Ag.of q5 (by decide))) q1 ?_
          · intro q hq
            rw [List.mem_append] at hq
            rcases hq with hq | hq
            · exact hok q hq
            · rw [← e1, hst] at hq
              have hw1 : (p ++ [l], v, bS B - (sm + bV B l)) ∈ wk B e hi lo (0 + 1) w sm p := by
                rw [wk_s, List.mem_flatMap]
                refine ⟨l, List.mem_range.mpr hl, ?_⟩
                unfold stW; rw [hev]; simp [hhv, c1, hlv]
              refine cy_ok hB hE (n := 0 + 1) (w := w) (s := sm) (p := p) hs (by omega) hp6 q ?_
              simp only [List.map_cons, List.map_nil, List.mem_singleton] at hq
              rw [hq]
              exact List.mem_map_of_mem hw1
          · intro k hk
            rw [q4 _ _ rfl, hW1 k (by rw [hlen']; omega), getD_app hk]
      · rw [if_neg c1]
        rw [if_neg c1] at hst
        rw [hst]
        simp only [List.map_nil, List.append_nil]
        exact ih K _ I J ps b3 (by omega) hks' hok hC hR hW
theorem X1_follow_ok {B : Bd} (hB : OkB B) {e : Nat → Option (Nat × Nat)} {hi lo : Nat → Bool} {o : Nat → Nat} (hE : EO B e hi lo o) (wt : Option Nat) (hwo : wtOk wt) (s : Nat) (hs : s < bW B) :
    ∀ n f p sm w ps I J, n < f → p.length + n = bD B → w < bW B → sm ≤ 20 → (∀ k, k ∈ p → k < 60) → (∀ q, q ∈ ps → okP q) → CX B e hi lo o I J → RX wt ps I J → wWay p I →
      Ok (F_X1_follow f (nI s) (nI w) (nI p.length) (nI sm) I J) (fwQ B e hi lo o wt (ps ++ (wk B e hi lo n w sm p).map (cy o s)) p) := by
  have hL := hB.2.2.1
  have hD := hB.2.2.2.2.2.2.1
  intro n
  induction n with
  | zero =>
    intro f p sm w ps I J hf hpn hw _ _ _ hC hR hW
    cases f with
    | zero => omega
    | succ f =>
      rw [F_X1_follow]
      unfold F_X1_follow_B
      rw [hC.2.2.1, if_pos (by rw [n_le] <;> omega)]
      refine Ok.mk ⟨?_, hW, hC⟩
      simpa [wk] using hR
  | succ n ih =>
    intro f p sm w ps I J hf hpn hw hsm hp6 hok hC hR hW
    cases f with
    | zero => omega
    | succ f =>
      rw [F_X1_follow]
      unfold F_X1_follow_B
      obtain ⟨w1, w2⟩ := wk_f (B := B) (e := e) hE.2.1 n w sm p
      obtain ⟨v1, v2⟩ := CX.left hE hC (by omega) hw
      have hW10 := hB.2.1
      rw [hC.2.2.1, if_neg (by rw [n_le] <;> omega), if_pos (n_lt3 (by omega))]
      simp (disch := omega) only [lb, n_bx, n_cl, bcN, cp, Option.bind_some, lit32, nI_1, nI_add, n_lt, n_eq]
      have hrc : ∀ v sm' p' ps I J, v < bW B → p'.length = p.length + 1 → sm' ≤ 20 → (∀ k, k ∈ p' → k < 60) → (∀ q, q ∈ ps → okP q) → CX B e hi lo o I J → RX wt ps I J → wWay p' I → Ok (F_X1_follow f (nI s) (nI v) (nI p'.length) (nI sm') I J) (fwQ B e hi lo o wt (ps ++ (wk B e hi lo n v sm' p').map (cy o s)) p') := by
        intro v sm' p' ps I J hv hp' hsm' hp6' hok' hC' hR' hW'
        exact ih f p' sm' v ps I J (by omega) (by omega) hv hsm' hp6' hok' hC' hR' hW'
      by_cases c : p.length + 1 < bD B
      · rw [if_pos c, if_pos trivial, ← bits_pc]
        rw [w1]
        rw [v1]
        refine X1_follow_L hB hE wt hwo s w n sm p hs hw (by omega) hp6 hsm (F_X1_follow f) (fun a b c d I J => fr_X1_follow f a b c d I J) hrc _ bgf _ I J ps v1 ?_ ?_ hok hC hR hW
        · have := List.length_filter_le (nxL e (fun v => !hi v) w) (List.range (bL B))
          rw [List.length_range] at this
          unfold bgf; omega
        · intro l hl
          rw [List.mem_filter, List.mem_range] at hl
          refine ⟨hl.1, ?_⟩
          have := hl.2
          unfold nxL at this
          cases he : e l with
          | none => rw [he] at this; simp at this
          | some uv =>
            obtain ⟨u, v⟩ := uv
            rw [he] at this
            simp only [Bool.and_eq_true, decide_eq_true_eq, Bool.not_eq_true'] at this
            exact ⟨v, by rw [this.1], this.2⟩
      · rw [if_neg c, if_neg (by decide), ← bits_pc]
        rw [w2 (by omega)]
        rw [v2]
        refine X1_follow_L hB hE wt hwo s w n sm p hs hw (by omega) hp6 hsm (F_X1_follow f) (fun a b c d I J => fr_X1_follow f a b c d I J) hrc _ bgf _ I J ps v2 ?_ ?_ hok hC hR hW
        · have := List.length_filter_le (nxL e lo w) (List.range (bL B))
          rw [List.length_range] at this
          unfold bgf; omega
        · intro l hl
          rw [List.mem_filter, List.mem_range] at hl
          refine ⟨hl.1, ?_⟩
          have := hl.2
          unfold nxL at this
          cases he : e l with
          | none => rw [he] at this; simp at this
          | some uv =>
            obtain ⟨u, v⟩ := uv
            rw [he] at this
            simp only [Bool.and_eq_true, decide_eq_true_eq] at this
            refine ⟨v, by rw [this.1], ?_⟩
            have hd := hE.2.1 v
            rw [this.2, Bool.and_true] at hd
            exact hd

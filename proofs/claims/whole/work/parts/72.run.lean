/-! LAYER 2: the class's run -/
theorem fm_len {α β : Type} (f : α → List β) (c : Nat) (l : List α) (h : ∀ x, x ∈ l → (f x).length ≤ c) : (l.flatMap f).length ≤ l.length * c := by
  induction l with
  | nil => simp
  | cons a l ih =>
    rw [List.flatMap_cons, List.length_append, List.length_cons, Nat.add_mul, Nat.one_mul]
    have h1 := h a (List.mem_cons_self ..)
    have h2 := ih (fun x hx => h x (List.mem_cons_of_mem _ hx))
    omega
theorem wk_len {B : Bd} (hB : OkB B) (e : Nat → Option (Nat × Nat)) (hi lo : Nat → Bool) : ∀ n w s p, (wk B e hi lo n w s p).length ≤ 60 ^ n := by
  intro n
  induction n with
  | zero => intro w s p; simp [wk]
  | succ n ih =>
    intro w s p
    rw [wk_s]
    refine Nat.le_trans (fm_len _ (60 ^ n) _ ?_) ?_
    · intro l _
      have h1 : 1 ≤ 60 ^ n := Nat.pos_of_ne_zero (by simp)
      unfold stW
      cases e l with
      | none => simp
      | some uv =>
        obtain ⟨u, v⟩ := uv
        simp only
        split
        · split
          · simpa using h1
          · exact ih _ _ _
        · simp
    · rw [List.length_range, Nat.pow_succ, Nat.mul_comm (60 ^ n)]
      exact Nat.mul_le_mul_right _ hB.2.2.1
theorem wk_lt {B : Bd} (e : Nat → Option (Nat × Nat)) (hi lo : Nat → Bool) : ∀ n w s p, (∀ k, k ∈ p → k < bL B) → ∀ q, q ∈ wk B e hi lo n w s p → ∀ k, k ∈ q.1 → k < bL B := by
  intro n
  induction n with
  | zero => intro w s p _ q hq; simp [wk] at hq
  | succ n ih =>
    intro w s p hp q hq
    rw [wk_s, List.mem_flatMap] at hq
    obtain ⟨l, hl, hq⟩ := hq
    rw [List.mem_range] at hl
    have hp' : ∀ k, k ∈ p ++ [l] → k < bL B := fun k hk => by
      rw [List.mem_append] at hk
      rcases hk with hk | hk
      · exact hp k hk
      · simp at hk; omega
    unfold stW at hq
    cases he : e l with
    | none => rw [he] at hq; simp at hq
    | some uv =>
      obtain ⟨u, v⟩ := uv
      rw [he] at hq
      simp only at hq
      split at hq
      · split at hq
        · simp only [List.mem_singleton] at hq
          subst hq
          exact hp'
        · exact ih _ _ _ hp' q hq
      · simp at hq
theorem paS_mem {B : Bd} {e : Nat → Option (Nat × Nat)} {hi lo : Nat → Bool} {o : Nat → Nat} {q : Pa} (h : q ∈ paS B e hi lo o) : ∃ w, w < bW B ∧ hi w = true ∧ q ∈ (wk B e hi lo (bD B) w 0 []).map (cy o w) := by
  unfold paS at h
  rw [List.mem_flatMap] at h
  obtain ⟨w, hw, h⟩ := h
  cases hh : hi w with
  | false => rw [hh] at h; simp at h
  | true => rw [hh] at h; exact ⟨w, List.mem_range.mp hw, hh, by simpa using h⟩
theorem paS_ok {B : Bd} (hB : OkB B) {e : Nat → Option (Nat × Nat)} {hi lo : Nat → Bool} {o : Nat → Nat} (hE : EO B e hi lo o) : ∀ q, q ∈ paS B e hi lo o → okP q := by
  intro q hq
  obtain ⟨w, hw, _, h⟩ := paS_mem hq
  exact cy_ok hB hE hw (by have := hB.2.2.2.2.2.2.1; simpa using this) (by simp) q h
theorem paS_lt {B : Bd} {e : Nat → Option (Nat × Nat)} {hi lo : Nat → Bool} {o : Nat → Nat} {k : Nat} (h : onT (paS B e hi lo o) k = true) : k < bL B := by
  unfold onT at h
  rw [List.any_eq_true] at h
  obtain ⟨q, hq, hk⟩ := h
  obtain ⟨w, _, _, h⟩ := paS_mem hq
  obtain ⟨r, hr, rfl⟩ := List.mem_map.mp h
  refine wk_lt e hi lo _ _ _ _ (by simp) r hr k ?_
  simpa [cy] using hk
theorem sum_le {α : Type} (f : α → Nat) (c : Nat) (l : List α) (h : ∀ x, x ∈ l → f x ≤ c) : (l.map f).sum ≤ l.length * c := by
  induction l with
  | nil => simp
  | cons a l ih =>
    rw [List.map_cons, List.sum_cons, List.length_cons, Nat.add_mul, Nat.one_mul]
    have h1 := h a (List.mem_cons_self ..)
    have h2 := ih (fun x hx => h x (List.mem_cons_of_mem _ hx))
    omega
theorem paS_bd {B : Bd} (hB : OkB B) {e : Nat → Option (Nat × Nat)} {hi lo : Nat → Bool} {o : Nat → Nat} (hE : EO B e hi lo o) (k : Nat) : liT (paS B e hi lo o) k < 10000000000000 := by
  have h1 : (paS B e hi lo o).length ≤ 10 * 216000 := by
    unfold paS
    refine Nat.le_trans (fm_len _ 216000 _ ?_) ?_
    · intro w _
      split
      · rw [List.length_map]
        refine Nat.le_trans (wk_len hB e hi lo _ _ _ _) ?_
        have h3 := hB.2.2.2.2.2.2.1
        exact Nat.le_trans (Nat.pow_le_pow_right (by decide) h3) (by decide)
      · simp
    · rw [List.length_range]; exact Nat.mul_le_mul_right _ hB.2.1
  have h2 : liT (paS B e hi lo o) k ≤ (paS B e hi lo o).length * 3000000 := by
    unfold liT
    refine sum_le _ _ _ ?_
    intro q hq
    obtain ⟨_, _, g3, _, _, g6⟩ := paS_ok hB hE q hq
    have := List.count_le_length (a := k) (l := q.2.1)
    have h4 : q.2.2.2 * q.2.1.count k ≤ 1000000 * 3 := Nat.mul_le_mul (by omega) (by omega)
    omega
  have := Nat.mul_le_mul_right 3000000 h1
  omega
theorem li_on (ps : List Pa) (h : ∀ q, q ∈ ps → 0 < q.2.2.2) (k : Nat) : decide (0 < liT ps k) = onT ps k := by
  induction ps with
  | nil => rfl
  | cons q ps ih =>
    have e1 : liT (q :: ps) k = q.2.2.2 * q.2.1.count k + liT ps k := by simp [liT]
    have e2 : onT (q :: ps) k = (q.2.1.contains k || onT ps k) := by simp [onT]
    rw [e1, e2, ← ih (fun q hq => h q (List.mem_cons_of_mem _ hq))]
    have hc := h q (List.mem_cons_self ..)
    cases hk : q.2.1.contains k with
    | false =>
      have : q.2.1.count k = 0 := by
        rw [List.count_eq_zero]; intro hm; rw [List.contains_iff_mem.mpr hm] at hk; cases hk
      rw [this, Nat.mul_zero, Nat.zero_add, Bool.false_or]
    | true =>
      have : 0 < q.2.1.count k := List.count_pos_iff.mpr (List.contains_iff_mem.mp hk)
      have := Nat.mul_pos hc this
      have : 0 < q.2.2.2 * q.2.1.count k + liT ps k := by omega
      simp [this]
-- putOut
theorem X1_put_L (I : HI) (kx : HJ → Option (Unit × HI × HJ)) (Q : Unit × HI × HJ → Prop) (hx : ∀ J, J x_flow f_Flow_lit = lN 0 → (∀ k, k < 64 → J x_flow_light k = lN 0) → Ok (kx J) Q) :
    ∀ ks K J, bits (J x_flow f_Flow_lit) = ks → ks.length < K → (∀ k, k < 64 → k ∉ ks → J x_flow_light k = lN 0) → Ok (F_X1_putOut_L8 I kx K (nI ks.length) J) Q := by
  intro ks
  induction ks with
  | nil =>
    intro K J hb hK hl
    cases K with
    | zero => omega
    | succ K =>
      rw [F_X1_putOut_L8, if_pos (by decide)]
      exact hx J (bits_nil hb) (fun k hk => hl k hk (by simp))
  | cons l ks ih =>
    intro K J hb hK hl
    cases K with
    | zero => omega
    | succ K =>
      obtain ⟨b1', b2, b3⟩ := bits_cons hb
      have hln : (l :: ks).length = ks.length + 1 := rfl
      rw [hln] at hK ⊢
      have hsz : (l :: ks).length ≤ 64 := by
        rw [← hb, bits_pc]; exact pcP_le 64 _
      rw [hln] at hsz
      rw [F_X1_putOut_L8, if_neg (n_z (by omega) (by omega)), b2]
      simp (disch := omega) only [cp, Option.bind_some, n_bx, n_cl, lb, lit32, litL, n_m1]
      refine ih K _ ?_ (by omega) ?_
      · rw [uj_r, uj_c (by decide)]; exact b3
      · intro k hk hn
        rw [uj_c (by decide), uj_s]
        by_cases c : k = l
        · rw [if_pos c]
        · rw [if_neg c]; exact hl k hk (by simp [c, hn])
theorem X1_putOut (I : HI) (J : HJ) (h : ∀ k, k < 64 → bt (J x_flow f_Flow_lit) k = false → J x_flow_light k = lN 0) : Ok (F_X1_putOut I J) (fun q => q.2.1 = I ∧ (∀ k, k < 64 → q.2.2 x_flow_light k = lN 0) ∧ q.2.2 x_flow f_Flow_lit = lN 0 ∧ (∀ w, w < 10 → q.2.2 x_flow_drawn w = lN 0)) := by
  unfold F_X1_putOut
  rw [bcN, ← bits_pc]
  simp only [cp, Option.bind_some, litL]
  refine X1_put_L I _ _ ?_ _ bgf J rfl ?_ ?_
  · intro J1 h1 h2
    refine Ok.call (fl_x_flow_drawn (lN 0) I J1) (fun r I2 J2 _ hP => Ok.mk ?_)
    dsimp only
    obtain ⟨q1, q2, q3⟩ := hP
    simp only at q1 q2 q3
    exact ⟨q1, fun k hk => by rw [q3 _ _ rfl]; exact h2 k hk, by rw [q3 _ _ rfl]; exact h1, q2⟩
  · rw [bits_pc]
    have : pc (J x_flow f_Flow_lit) ≤ 64 := pcP_le 64 _
    unfold bgf; omega
  · intro k hk hn
    apply h k hk
    rw [bits_mem] at hn
    simpa using hn
-- a run
def FX (B : Bd) (e : Nat → Option (Nat × Nat)) (hi lo : Nat → Bool) (o : Nat → Nat) (I : HI) (J : HJ) : Prop :=
  I x_board f_Board_wide = nI (bW B) ∧ I x_board f_Board_lamps = nI (bL B) ∧ I x_board f_Board_supply = nI (bS B) ∧ I x_board f_Board_depth = nI (bD B) ∧ I x_board f_Board_faint = nI (bF B) ∧ (∀ l, l < bL B → I x_board_volts l = nI (bV B l)) ∧
  (∀ w, w < bW B → I x_flow_ohms w = nI (o w)) ∧
  (∀ l w v, l < bL B → e l = some (w, v) → gl1 I l = nI v) ∧
  (∀ w, w < bW B → ∀ v, v < bW B → ∀ l, (bt (J x_flow_out w) l && bt (J x_flow_into v) l) = (decide (l < bL B) && decide (e l = some (w, v)))) ∧
  (∀ w, w < bW B → bi (I x_flow f_Flow_high) w = hi w ∧ bi (I x_flow f_Flow_low) w = lo w)
theorem any_s (i : Nat) (f : Nat → Bool) : (List.range (i + 1)).any f = ((List.range i).any f || f i) := by
  rw [List.range_succ, List.any_append]; simp
theorem X1_run_L1 {B : Bd} (hB : OkB B) {hi lo : Nat → Bool} (I : HI) (J0 : HJ) (hW : I x_board f_Board_wide = nI (bW B)) (hh : ∀ w, w < bW B → bi (I x_flow f_Flow_high) w = hi w ∧ bi (I x_flow f_Flow_low) w = lo w) (kx : HJ → Option (Int64 × HI × HJ)) (Q : Int64 × HI × HJ → Prop)
    (hx : ∀ J, (∀ l, bt (J x_flow f_Flow_toLow) l = (List.range (bW B)).any (fun v => lo v && bt (J0 x_flow_into v) l)) → (∀ l, bt (J x_flow f_Flow_toFree) l = (List.range (bW B)).any (fun v => !lo v && !hi v && bt (J0 x_flow_into v) l)) → Sm [(x_flow, some f_Flow_toLow), (x_flow, some f_Flow_toFree)] J0 J → Ok (kx J) Q) :
    ∀ K i, i ≤ bW B → bW B - i < K → ∀ J, ((∀ l, bt (J x_flow f_Flow_toLow) l = (List.range i).any (fun v => lo v && bt (J0 x_flow_into v) l)) ∧ (∀ l, bt (J x_flow f_Flow_toFree) l = (List.range i).any (fun v => !lo v && !hi v && bt (J0 x_flow_into v) l)) ∧ Sm [(x_flow, some f_Flow_toLow), (x_flow, some f_Flow_toFree)] J0 J) → Ok (F_X1_run_L32 I kx K (nI i) J) Q := by
  have hw := hB.2.1
  refine up ?_ ?_
  · intro K J hJ
    rw [F_X1_run_L32, hW, if_pos (by rw [n_le] <;> omega)]
    exact hx J hJ.1 hJ.2.1 hJ.2.2
  · intro K i hi' ih J hJ
    obtain ⟨j1, j2, j3⟩ := hJ
    obtain ⟨g1, g2⟩ := hh i hi'
    rw [F_X1_run_L32, hW, if_neg (by rw [n_le] <;> omega)]
    simp (disch := omega) only [lb, lit32, t_iu, if10, g1, g2, n_bx, n_cl, nI_1, nI_add]
    have e0 : J x_flow_into i = J0 x_flow_into i := j3 _ _ rfl
    cases hlo : lo i with
    | false =>
      rw [if_pos rfl]
      cases hhi : hi i with
      | false =>
        rw [if_pos rfl]
        refine ih _ ⟨fun l => ?_, fun l => ?_, Sm.mj rfl j3⟩
        · rw [uj_j (by decide), j1, any_s, hlo]; simp
        · rw [uj_r, bt_or, j2, any_s, hlo, hhi, e0]; simp
      | true =>
        rw [if_neg (by simp)]
        refine ih _ ⟨fun l => ?_, fun l => ?_, j3⟩
        · rw [j1, any_s, hlo]; simp
        · rw [j2, any_s, hlo, hhi]; simp
    | true =>
      rw [if_neg (by simp)]
      refine ih _ ⟨fun l => ?_, fun l => ?_, Sm.mj rfl j3⟩
      · rw [uj_r, bt_or, j1, any_s, hlo, e0]; simp
      · rw [uj_j (by decide), j2, any_s, hlo]; simp
theorem X1_run_L2 {B : Bd} (hB : OkB B) {e : Nat → Option (Nat × Nat)} {hi lo : Nat → Bool} {o : Nat → Nat} (hE : EO B e hi lo o) (wt : Option Nat) (hwo : wtOk wt) (kx : HI → HJ → Option (Int64 × HI × HJ)) (Q : Int64 × HI × HJ → Prop) (I0 : HI) (J0 : HJ) (hh : ∀ w, w < bW B → bi (I0 x_flow f_Flow_high) w = hi w)
    (hx : ∀ I J, RX wt (paS B e hi lo o) I J → Sm wi_X1_follow I0 I → Sm wj_X1_follow J0 J → Ok (kx I J) Q) :
    ∀ K i, i ≤ bW B → bW B - i < K → ∀ I J, CX B e hi lo o I J → RX wt ((List.range i).flatMap (fun w => if hi w then (wk B e hi lo (bD B) w 0 []).map (cy o w) else [])) I J → Sm wi_X1_follow I0 I → Sm wj_X1_follow J0 J → Ok (F_X1_run_L106 kx K (nI i) I J) Q := by
  have hw := hB.2.1
  have hd := hB.2.2.2.2.2.2.1
  refine up ?_ ?_
  · intro K I J hC hR s1 s2
    rw [F_X1_run_L106, hC.1, if_pos (by rw [n_le] <;> omega)]
    exact hx I J hR s1 s2
  · intro K i hi' ih I J hC hR s1 s2
    rw [F_X1_run_L106, hC.1, if_neg (by rw [n_le] <;> omega)]
    have e1 : bi (I x_flow f_Flow_high) i = hi i := by rw [s1 _ _ rfl]; exact hh i hi'
    simp (disch := omega) only [lb, lit32, t_iu, if10, e1, nI_1, nI_add]
    rw [List.range_succ, List.flatMap_append] at ih
    simp only [List.flatMap_cons, List.flatMap_nil, List.append_nil] at ih
    cases hhi : hi i with
    | false =>
      rw [if_pos rfl]
      rw [hhi] at ih
      exact ih I J hC (by simpa using hR) s1 s2
    | true =>
      rw [if_neg (by simp)]
      rw [hhi] at ih
      have hok : ∀ q, q ∈ (List.range i).flatMap (fun w => if hi w then (wk B e hi lo (bD B) w 0 []).map (cy o w) else []) → okP q := by
        intro q hq
        apply paS_ok hB hE
        unfold paS
        rw [List.mem_flatMap] at hq ⊢
        obtain ⟨w, hw, hq⟩ := hq
        exact ⟨w, by rw [List.mem_range] at hw ⊢; omega, hq⟩
      have := (X1_follow_ok hB hE wt hwo i hi' (bD B) 20 [] 0 i _ I J (by omega) (by simp) hi' (by omega) (by simp) hok hC hR (fun k hk => by simp at hk)).fo (fr_X1_follow _ _ _ _ _ _ _)
      refine Ok.call this (fun r I2 J2 _ hP => ?_)
      obtain ⟨⟨q1, q2, q3⟩, q4, q5⟩ := hP
      simp only at q1 q2 q3 q4 q5
      exact ih I2 J2 q3 (by simpa using q1) (Sm.tr rfl s1 q4) (Sm.tr rfl s2 q5)
theorem wk_no {B : Bd} {e : Nat → Option (Nat × Nat)} {hi lo : Nat → Bool} {o : Nat → Nat} (hE : EO B e hi lo o) (h : ∀ v, v < bW B → lo v = false) : ∀ n w s p, wk B e hi lo n w s p = [] := by
  intro n
  induction n with
  | zero => intro w s p; rfl
  | succ n ih =>
    intro w s p
    rw [wk_s, List.flatMap_eq_nil_iff]
    intro l hl
    rw [List.mem_range] at hl
    unfold stW
    cases he : e l with
    | none => rfl
    | some uv =>
      obtain ⟨u, v⟩ := uv
      simp only
      rw [h v (hE.1 l u v hl he).2.1, ih]
      simp
theorem gw_nil (B : Bd) (hB : OkB B) : gwT B [] = lN 0 := by
  apply bt_ext
  intro k _
  unfold gwT
  rw [stN_b (by have := hB.2.2.1; omega), bt_z]
  simp [liT]
theorem X1_bright {B : Bd} (hB : OkB B) (ps : List Pa) (h0 : ∀ q, q ∈ ps → 0 < q.2.2.2) (hlt : ∀ k, onT ps k = true → k < bL B) (hbd : ∀ k, liT ps k < 10000000000000) (I : HI) (J : HJ) (hL : I x_board f_Board_lamps = nI (bL B)) (hF : I x_board f_Board_faint = nI (bF B)) (r1 : ∀ k, k < 64 → J x_flow_light k = lN (liT ps k)) (r2 : ∀ k, k < 64 → bt (J x_flow f_Flow_lit) k = onT ps k) : F_X1_bright I J = some (gwT B ps) := by
  have h60 := hB.2.2.1
  have h99 := hB.2.2.2.2.2.2.2.1
  unfold F_X1_bright
  rw [hF]
  simp (disch := omega) only [lit32, litL, n_eq]
  by_cases c : bF B = 0
  · rw [if_pos c]
    congr 1
    apply bt_ext
    intro k hk
    unfold gwT
    rw [r2 k hk, stN_b (by omega), c, Nat.zero_mul]
    simp only [Nat.zero_le, decide_true, Bool.and_true]
    rw [li_on ps h0]
    cases ho : onT ps k with
    | false => simp
    | true => simp [hlt k ho]
  · rw [if_neg c]
    have h : ∀ K i, i ≤ bL B → bL B - i < K → F_X1_bright_L19 I J K (stN i (fun l => decide (0 < liT ps l) && decide (bF B * 27720 ≤ 100 * liT ps l))) (nI i) = some (gwT B ps) := by
      refine up ?_ ?_
      · intro K
        rw [F_X1_bright_L19, hL, if_pos (by rw [n_le] <;> omega)]
        rfl
      · intro K i hi ih
        have hb := hbd i
        rw [F_X1_bright_L19, hL, if_neg (by rw [n_le] <;> omega), hF]
        simp (disch := omega) only [lb, lit32, litL, n_bx, n_cl, r1 i (by omega), cml, lN_mul, n_l, L_lt, nI_1, nI_add]
        rw [stN_s] at ih
        by_cases d : liT ps i * 100 < bF B * 27720
        · rw [if_pos d]
          have : (decide (0 < liT ps i) && decide (bF B * 27720 ≤ 100 * liT ps i)) = false := by
            simp; omega
          rw [this] at ih
          simpa using ih
        · rw [if_neg d]
          have : (decide (0 < liT ps i) && decide (bF B * 27720 ≤ 100 * liT ps i)) = true := by
            simp; omega
          rw [this] at ih
          simpa using ih
    exact h bgf 0 (by omega) (by unfold bgf; omega)
def litOk (J : HJ) : Prop := ∀ k, k < 64 → bt (J x_flow f_Flow_lit) k = false → J x_flow_light k = lN 0
def wt0 (wt : Option Nat) (I : HI) (J : HJ) : Prop := I x_flow f_Flow_watched = wtI wt ∧ ∀ a, wt = some a → I x_flow f_Flow_passing = nI 0 ∧ J x_flow f_Flow_best = lN 0 ∧ I x_flow f_Flow_bestSize = nI 0
theorem RX_0 {wt : Option Nat} {I : HI} {J : HJ} (hw : wt0 wt I J) (h1 : ∀ k, k < 64 → J x_flow_light k = lN 0) (h2 : J x_flow f_Flow_lit = lN 0) (h3 : ∀ w, w < 10 → J x_flow_drawn w = lN 0) : RX wt [] I J := by
  refine ⟨h1, fun k _ => by rw [h2, bt_z]; rfl, h3, hw.1, fun a ha => ?_⟩
  obtain ⟨g1, g2, g3⟩ := hw.2 a ha
  exact ⟨g1, g2, g3, fun k hk => by simp [bsT] at hk⟩
theorem X1_run {B : Bd} (hB : OkB B) {e : Nat → Option (Nat × Nat)} {hi lo : Nat → Bool} {o : Nat → Nat} (hE : EO B e hi lo o) (wt : Option Nat) (hwo : wtOk wt) (I : HI) (J : HJ) (hF : FX B e hi lo o I J) (hl : litOk J) (hw : wt0 wt I J) :
    Ok (F_X1_run I J) (fun q => q.1 = gwT B (paS B e hi lo o) ∧ RX wt (paS B e hi lo o) q.2.1 q.2.2) := by
  obtain ⟨f1, f2, f3, f4, f5, f6, f7, f8, f9, f10⟩ := hF
  unfold F_X1_run
  refine Ok.call ((X1_putOut I J hl).fo (fr_X1_putOut I J)) (fun r I5 J6 _ hP => ?_)
  obtain ⟨⟨p1, p2, p3, p4⟩, p5, p6⟩ := hP
  simp only at p1 p2 p3 p4 p5 p6
  subst p1
  have hw6 : wt0 wt I5 J6 := ⟨hw.1, fun a ha => by rw [p6 _ _ rfl]; exact hw.2 a ha⟩
  have hR0 := RX_0 hw6 p2 p3 p4
  by_cases c1 : I5 x_flow f_Flow_high = 0
  · rw [if_pos c1]
    have : paS B e hi lo o = [] := by
      unfold paS
      rw [List.flatMap_eq_nil_iff]
      intro w hw'
      rw [List.mem_range] at hw'
      have := (f10 w hw').1
      rw [c1] at this
      rw [← this, bi_0]; simp
    rw [this]
    exact Ok.mk ⟨(gw_nil B hB).symm, hR0⟩
  · rw [if_neg c1]
    by_cases c2 : I5 x_flow f_Flow_low = 0
    · rw [if_pos c2]
      have : paS B e hi lo o = [] := by
        unfold paS
        rw [List.flatMap_eq_nil_iff]
        intro w hw'
        rw [wk_no hE (fun v hv => by rw [← (f10 v hv).2, c2, bi_0])]
        simp
      rw [this]
      exact Ok.mk ⟨(gw_nil B hB).symm, hR0⟩
    · rw [if_neg c2]
      simp only [lb, litL, lit32]
      generalize hJ8 : uj (uj J6 x_flow f_Flow_toLow (lN 0)) x_flow f_Flow_toFree (lN 0) = J8
      have s8 : Sm [(x_flow, some f_Flow_toLow), (x_flow, some f_Flow_toFree)] J6 J8 := by rw [← hJ8]; exact Sm.mj rfl (Sm.mj rfl Sm.rf)
      have e81 : J8 x_flow f_Flow_toLow = lN 0 := by rw [← hJ8, uj_j (by decide), uj_r]
      have e82 : J8 x_flow f_Flow_toFree = lN 0 := by rw [← hJ8, uj_r]
      refine X1_run_L1 hB (hi := hi) (lo := lo) I5 J8 f1 f10 _ _ ?_ bgf 0 (by omega) (by have := hB.2.1; unfold bgf; omega) J8 ⟨fun l => by rw [e81, bt_z]; rfl, fun l => by rw [e82, bt_z]; rfl, Sm.rf⟩
      intro J13 t1 t2 t3
      have hC : CX B e hi lo o I5 J13 := by
        refine ⟨f1, f3, f4, f6, f7, f8, fun w hw' v hv l => ?_, fun l => ?_, fun l => ?_⟩
        · rw [t3 _ _ rfl, t3 _ _ rfl, s8 _ _ rfl, s8 _ _ rfl, p6 _ _ rfl, p6 _ _ rfl]; exact f9 w hw' v hv l
        · rw [t1]
          have : ∀ v, J13 x_flow_into v = J8 x_flow_into v := fun v => t3 _ _ rfl
          simp only [this]
        · rw [t2]
          have : ∀ v, J13 x_flow_into v = J8 x_flow_into v := fun v => t3 _ _ rfl
          simp only [this]
      have hR : RX wt [] I5 J13 := by
        refine RX_0 ⟨hw6.1, fun a ha => ?_⟩ (fun k hk => by rw [t3 _ _ rfl, s8 _ _ rfl]; exact p2 k hk) (by rw [t3 _ _ rfl, s8 _ _ rfl]; exact p3) (fun w hw' => by rw [t3 _ _ rfl, s8 _ _ rfl]; exact p4 w hw')
        obtain ⟨g1, g2, g3⟩ := hw6.2 a ha
        exact ⟨g1, by rw [t3 _ _ rfl, s8 _ _ rfl]; exact g2, g3⟩
      refine X1_run_L2 hB hE wt hwo _ _ I5 J13 (fun w hw' => (f10 w hw').1) ?_ bgf 0 (by omega) (by have := hB.2.1; unfold bgf; omega) I5 J13 hC (by simpa using hR) Sm.rf Sm.rf
      intro I19 J20 hR' s1 s2
      rw [X1_bright hB (paS B e hi lo o) (fun q hq => (paS_ok hB hE q hq).2.2.2.2.1) (fun k hk => paS_lt hk) (paS_bd hB hE) I19 J20 (by rw [s1 _ _ rfl]; exact f2) (by rw [s1 _ _ rfl]; exact f5) hR'.1 hR'.2.1]
      simp only [cp, Option.bind_some]
      exact Ok.mk ⟨rfl, hR'⟩
/-- where nothing is high, nothing goes -/
theorem X1_run0 {B : Bd} (hB : OkB B) (wt : Option Nat) (I : HI) (J : HJ) (hh : I x_flow f_Flow_high = nI 0) (hl : litOk J) (hw : wt0 wt I J) :
    Ok (F_X1_run I J) (fun q => q.1 = gwT B [] ∧ RX wt [] q.2.1 q.2.2) := by
  unfold F_X1_run
  refine Ok.call ((X1_putOut I J hl).fo (fr_X1_putOut I J)) (fun r I5 J6 _ hP => ?_)
  obtain ⟨⟨p1, p2, p3, p4⟩, p5, p6⟩ := hP
  simp only at p1 p2 p3 p4 p5 p6
  subst p1
  have hw6 : wt0 wt I5 J6 := ⟨hw.1, fun a ha => by rw [p6 _ _ rfl]; exact hw.2 a ha⟩
  rw [if_pos (show I5 x_flow f_Flow_high = 0 from hh)]
  exact Ok.mk ⟨(gw_nil B hB).symm, RX_0 hw6 p2 p3 p4⟩

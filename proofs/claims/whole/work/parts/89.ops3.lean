/-! LAYER 2: calls: why, brightest -/
theorem take_s64 (p : List Int64) {i : Nat} (h : i < p.length) : p.take (i + 1) = p.take i ++ [p.getD i 0] := by
  rw [List.take_succ_eq_append_getElem h]; simp [List.getD, h]
def wsL (p : List Nat) : List Int64 := p.map (fun l => Int32.toInt64 (nI l))
theorem wsL_len (p : List Nat) : (wsL p).length = p.length := by unfold wsL; simp
theorem wsL_get {p : List Nat} {i : Nat} (h : i < p.length) : (wsL p).getD i 0 = Int32.toInt64 (nI (p.getD i 0)) := by
  unfold wsL; simp [List.getD, h]
theorem X11_why_L (m : Nat × List Nat) (g3 : m.2.length ≤ 3) (I0 : HI) (J0 : HJ) (hb : bsX m I0 J0) (kx : HI → HJ → Option (Int64 × HI × HJ)) (Q : Int64 × HI × HJ → Prop)
    (hx : ∀ I J, tX (wsL m.2) I J → Sm [(x_told, some f_Told_size)] I0 I → Sm [(x_told_numbers, none)] J0 J → Ok (kx I J) Q) :
    ∀ K i, i ≤ m.2.length → m.2.length - i < K → ∀ I J, tX ((wsL m.2).take i) I J → Sm [(x_told, some f_Told_size)] I0 I → Sm [(x_told_numbers, none)] J0 J → Ok (F_X11_why_L60 kx K (nI i) I J) Q := by
  refine up ?_ ?_
  · intro K I J ht s1 s2
    rw [F_X11_why_L60, if_pos (by rw [s1 _ _ rfl, hb.2.1, n_le] <;> omega)]
    rw [← wsL_len, List.take_length] at ht
    exact hx I J ht s1 s2
  · intro K i hi ih I J ht s1 s2
    rw [F_X11_why_L60, if_neg (by rw [s1 _ _ rfl, hb.2.1, n_le] <;> omega)]
    refine Ok.bxe (by omega) (by omega) ?_
    rw [n_cl (by omega), s1 x_flow_bestWay _ rfl, hb.2.2 i hi, nI_1, ← wsL_get hi]
    refine Ok.call ((tX_add ht _ (by rw [List.length_take, wsL_len]; omega)).fo (fr_X10_add _ _ _)) (fun r I3 J3 _ hP => ?_)
    obtain ⟨d1, d2, d3⟩ := hP
    simp only at d1 d2 d3
    rw [← take_s64 _ (by rw [wsL_len]; exact hi)] at d1
    exact ih I3 J3 d1 (Sm.tr rfl s1 d2) (Sm.tr rfl s2 d3)
theorem X12_why_L (m : Nat × List Nat) (g3 : m.2.length ≤ 3) (I0 : HI) (J0 : HJ) (hb : I0 m_self f_Model_bestMany = nI m.2.length ∧ ∀ k, k < m.2.length → I0 m_bestPath k = nI (m.2.getD k 0)) (kx : HI → HJ → Option (Int64 × HI × HJ)) (Q : Int64 × HI × HJ → Prop)
    (hx : ∀ I J, tM (wsL m.2) I J → Sm [(m_self, some f_Model_rowMany)] I0 I → Sm [(m_row, none)] J0 J → Ok (kx I J) Q) :
    ∀ K i, i ≤ m.2.length → m.2.length - i < K → ∀ I J, tM ((wsL m.2).take i) I J → Sm [(m_self, some f_Model_rowMany)] I0 I → Sm [(m_row, none)] J0 J → Ok (F_X12_why_L42 kx K (nI i) I J) Q := by
  refine up ?_ ?_
  · intro K I J ht s1 s2
    rw [F_X12_why_L42, if_pos (by rw [s1 _ _ rfl, hb.1, n_le] <;> omega)]
    rw [← wsL_len, List.take_length] at ht
    exact hx I J ht s1 s2
  · intro K i hi ih I J ht s1 s2
    rw [F_X12_why_L42, if_neg (by rw [s1 _ _ rfl, hb.1, n_le] <;> omega)]
    refine Ok.bxe (by omega) (by omega) ?_
    rw [n_cl (by omega), s1 m_bestPath _ rfl, hb.2 i hi, nI_1, ← wsL_get hi]
    refine Ok.call ((tM_add ht _ (by rw [List.length_take, wsL_len]; omega)).fo (fr_X12_tell _ _ _)) (fun r I3 J3 _ hP => ?_)
    obtain ⟨d1, d2, d3⟩ := hP
    simp only at d1 d2 d3
    rw [← take_s64 _ (by rw [wsL_len]; exact hi)] at d1
    exact ih I3 J3 d1 (Sm.tr rfl s1 d2) (Sm.tr rfl s2 d3)
theorem OP12 (n : Nat) (b : Bool) (I : HI) (J : HJ) (a1 a2 a3 a4 : Int32) (h : Iv (n + 1) b I J) : Op12 (Iv n) b I J a1 a2 a3 a4 := by
  obtain ⟨B, nb, h⟩ := h
  have hB := h.1
  have hW := hB.2.1
  have h60 := hB.2.2.1
  have hM := h.2.2.1
  have hX := h.2.1
  have hN := h.2.2.2.2.1
  rcases i_case a1 (bL B) (by omega) with ⟨i, hi, rfl⟩ | ⟨hn, _⟩
  · generalize hps : ptF B 0 (bi (I x_notes f_Notes_high)) (bi (I x_notes f_Notes_low)) = ps
    have hok : ∀ q, q ∈ ps → okP q := by rw [← hps]; exact (ptF_ok hB (nF_0 B) hN.2.2.1.1).1
    have hlen : psT i ps ≤ 2160000 := by
      refine Nat.le_trans (ps_len i ps) ?_
      rw [← hps]; exact ptF_len hB 0 _ _
    have hbs := bs_mx i ps
    have hmx := mx_ps ps (fun q hq => (hok q hq).2.2.2.2.1) i
    obtain ⟨b1', b2, b3⟩ := bsT_ok i ps hok
    refine bothF (P := fun q => CFlow q.2.1 q.2.2 ∧ ((psT i ps = 0 ∧ q.1 = -2 ∧ (∃ n, n ≤ 16 ∧ q.2.1 x_told f_Told_size = nI n ∧ q.2.1 m_self f_Model_rowMany = nI n ∧ ∀ k, k < n → q.2.2 m_row k = q.2.2 x_told_numbers k)) ∨ (psT i ps ≠ 0 ∧ q.1 = lN (bsT i ps).1 ∧ tX (wsL (bsT i ps).2) q.2.1 q.2.2))) ?_ (fr_X11_why (nI i) I J) (fun I1 J1 => fr_X12_why (nI i) I1 J1) ?_
    · unfold F_X11_why
      rw [(X0_hasLamp (by omega) hX.2.1).1 ⟨i, hi, rfl⟩]
      refine Ok.cpe rfl (Ok.f (by decide) ?_)
      refine Ok.call ((X1_watch hB i hi _ _ hN.2.2.1.1 I J hX h.2.2.2.2.2.2.2.2.2.2.1.1).fo (fr_X1_watch _ _ _ _ _)) (fun r I1 J1 _ hP => ?_)
      obtain ⟨⟨p1, p2, p3, p4⟩, p5, p6⟩ := hP
      rw [hps] at p1 p2 p3
      simp only at p1 p2 p3 p4 p5 p6
      rw [p2]
      by_cases c : psT i ps = 0
      · refine Ok.t (show nI (psT i ps) = 0 by rw [c]; rfl) (Ok.mk ⟨p4, Or.inl ⟨c, rfl, ?_⟩⟩)
        exact h.2.2.2.2.2.1.keep (Ag.of p5 (by decide)) (Ag.of p6 (by decide))
      · refine Ok.f (show ¬ nI (psT i ps) = 0 from fun h0 => by
          have h0' : nI (psT i ps) = nI 0 := h0
          rw [n_eq (by omega) (by omega)] at h0'; exact c h0') ?_
        obtain ⟨c1, c2⟩ := tX_0 I1 J1
        refine Ok.cle c1 ?_
        have sc : Sm [(x_told, some f_Told_size)] I1 (ui I1 x_told f_Told_size 0) := Sm.mi rfl Sm.rf
        have hb : bsX (bsT i ps) (ui I1 x_told f_Told_size 0) J1 := ⟨p3.1, by rw [sc _ _ rfl]; exact p3.2.1, fun k hk => by rw [sc _ _ rfl]; exact p3.2.2 k hk⟩
        refine X11_why_L (bsT i ps) b1' _ J1 hb _ _ ?_ bgf 0 (by omega) (by unfold bgf; omega) _ _ (by simpa using c2) Sm.rf Sm.rf
        intro I3 J3 ht s1 s2
        refine Ok.mk ⟨?_, Or.inr ⟨c, ?_, ht⟩⟩
        · exact p4.keep (Ag.two sc s1 (by decide) (by decide)) (Ag.of s2 (by decide))
        · dsimp only; rw [s2 _ _ rfl]; exact p3.1
    · intro r I1 J1 hP s1 s2
      obtain ⟨hF1, hcs⟩ := hP
      simp only at hF1 hcs
      have sT := th_s I1 0
      have hM2 : MB B (ui I1 m_self f_Model_thrown 0) := hM.keep (Ag.two s1 sT (by decide) (by decide))
      unfold F_X12_why
      refine Ok.lbv ?_
      rw [(X12_isLamp (by omega) hM2.2.1).1 ⟨i, hi, rfl⟩]
      refine Ok.cpe rfl (Ok.f (by decide) ?_)
      refine Ok.call ((X12_countAll hB (some i) (show i < 64 by omega) _ _ hN.2.2.1.1 _ J1 hM2 (by rw [sT _ _ rfl, s1 _ _ rfl]; exact hN.1) (by rw [sT _ _ rfl, s1 _ _ rfl]; exact hN.2.1)).fo (fr_X12_countAll _ _ _)) (fun r' I3 J3 _ hP => ?_)
      obtain ⟨⟨p1, p2, p3, p4⟩, p5, p6⟩ := hP
      rw [hps] at p3
      simp only at p3 p4 p5 p6
      obtain ⟨z1, z2⟩ := p3 i rfl
      rcases hcs with ⟨c, hr, hT⟩ | ⟨c, hr, hT⟩
      · refine Ok.t (show lg_cmp (J3 m_self f_Model_bestCarry) 0 = 0 by
          rw [lg_cmp_eq, z1, hbs, hmx.mpr c]; rfl) (Ok.mk ⟨hr.symm, fun t1 t2 => ?_⟩)
        dsimp only at t1 t2 ⊢
        obtain ⟨kX, kM, kTx, kN, _, kP, k0, k1, kTb, _, _, kB⟩ := IV_k h s1 s2 t1 t2
        have hT2 : CTold I3 J3 := CTold.keep hT (Ag.two sT p5 (by decide) (by decide)) (Ag.of p6 (by decide))
        exact ⟨B, nb, hB, kX (by decide), kM (by decide), kTx (by decide), kN (by decide), hT2, kP (by decide), k0 (by decide), k1 (by decide), kTb (by decide), hF1.keep (Ag.of t1 (by decide)) (Ag.of t2 (by decide)), p4, kB (by decide)⟩
      · have c' : (bsT i ps).1 ≠ 0 := fun h0 => c (hmx.mp (by rw [← hbs]; exact h0))
        refine Ok.f (show ¬ lg_cmp (J3 m_self f_Model_bestCarry) 0 = 0 from fun h0 => by
          rw [lg_cmp_eq, z1] at h0
          have h0' : lN (bsT i ps).1 = lN 0 := h0
          rw [L_eq (by omega) (by omega)] at h0'; exact c' h0') ?_
        refine Ok.lbv ?_
        have sc : Sm [(m_self, some f_Model_rowMany)] I3 (ui I3 m_self f_Model_rowMany 0) := Sm.mi rfl Sm.rf
        have c2 : tM [] (ui I3 m_self f_Model_rowMany 0) J3 := ⟨by rw [ui_r]; rfl, fun k hk => by simp at hk⟩
        have hb := z2 c'
        refine X12_why_L (bsT i ps) b1' _ J3 ⟨by rw [sc _ _ rfl]; exact hb.1, fun k hk => by rw [sc _ _ rfl]; exact hb.2 k hk⟩ _ _ ?_ bgf 0 (by omega) (by unfold bgf; omega) _ _ (by simpa using c2) Sm.rf Sm.rf
        intro I4 J4 ht u1 u2
        refine Ok.mk ⟨?_, fun t1 t2 => ?_⟩
        · dsimp only; rw [hr, u2 _ _ rfl]; exact z1
        · dsimp only at t1 t2 ⊢
          obtain ⟨kX, kM, kTx, kN, _, kP, k0, k1, kTb, _, _, kB⟩ := IV_k h s1 s2 t1 t2
          refine ⟨B, nb, hB, kX (by decide), kM (by decide), kTx (by decide), kN (by decide), CTold.of (hT.keep (Ag.of t1 (by decide)) (Ag.of t2 (by decide))) ht, kP (by decide), k0 (by decide), k1 (by decide), kTb (by decide), hF1.keep (Ag.of t1 (by decide)) (Ag.of t2 (by decide)), ?_, kB (by decide)⟩
          exact p4.keep (Ag.two sc u1 (by decide) (by decide))
  · refine ⟨-1, I, J, ui I m_self f_Model_thrown 0, J, ?_, ?_, IV_th h (th_s I 0) Sm.rf⟩
    · unfold F_X11_why
      rw [(X0_hasLamp (by omega) hX.2.1).2 hn]; rfl
    · unfold F_X12_why
      simp only [lb]
      rw [(X12_isLamp (J := J) (by omega) (by rw [ui_j (by decide)]; exact hM.2.1)).2 hn]; rfl
-- brightest
def br1 (li : Nat → Nat) (st : Option (Nat × Nat)) (l : Nat) : Option (Nat × Nat) := match st with | none => some (l, l) | some (x, d) => some (if li x < li l then l else x, if li l < li d then l else d)
def brS (p : Nat → Bool) (li : Nat → Nat) (i : Nat) : Option (Nat × Nat) := (List.range i).foldl (fun st l => if p l then br1 li st l else st) none
theorem brS_s (p : Nat → Bool) (li : Nat → Nat) (i : Nat) : brS p li (i + 1) = if p i then br1 li (brS p li i) i else brS p li i := by
  unfold brS; rw [List.range_succ, List.foldl_append]; rfl
theorem brS_lt {p : Nat → Bool} {li : Nat → Nat} {i x d : Nat} (h : brS p li i = some (x, d)) : x < i ∧ d < i := by
  induction i generalizing x d with
  | zero => cases h
  | succ i ih =>
    rw [brS_s] at h
    cases hp : p i with
    | false =>
      rw [hp] at h
      have := ih (by simpa using h)
      omega
    | true =>
      rw [hp] at h
      simp only [if_true] at h
      cases hb : brS p li i with
      | none => rw [hb] at h; simp [br1] at h; omega
      | some xd =>
        obtain ⟨x', d'⟩ := xd
        have := ih hb
        rw [hb] at h
        simp only [br1, Option.some.injEq, Prod.mk.injEq] at h
        obtain ⟨h1, h2⟩ := h
        constructor
        · rw [← h1]; split <;> omega
        · rw [← h2]; split <;> omega
theorem brS_0 {p : Nat → Bool} {li : Nat → Nat} {i : Nat} (h : ∀ k, k < i → p k = false) : brS p li i = none := by
  induction i with
  | zero => rfl
  | succ i ih => rw [brS_s, h i (by omega), ih (fun k hk => h k (by omega))]; rfl
theorem X11_br_L {B : Bd} (hB : OkB B) (ps : List Pa) (hbd : ∀ k, liT ps k < 10000000000000) (p : Nat → Bool) (g : Int64) (hg : ∀ k, k < bL B → bt g k = p k) (I : HI) (J : HJ) (hL : I x_board f_Board_lamps = nI (bL B)) (r1 : ∀ k, k < 64 → J x_flow_light k = lN (liT ps k)) (kx : Int32 → Int32 → Option (Int32 × HI × HJ)) (Q : Int32 × HI × HJ → Prop)
    (hx : ∀ x d, brS p (liT ps) (bL B) = some (x, d) → Ok (kx (nI x) (nI d)) Q) :
    ∀ K i, i ≤ bL B → bL B - i < K → ∀ x d, brS p (liT ps) i = some (x, d) → Ok (F_X11_brightest_L44 g I J kx K (nI x) (nI d) (nI i)) Q := by
  have h60 := hB.2.2.1
  refine up ?_ ?_
  · intro K x d h
    rw [F_X11_brightest_L44, if_pos (by rw [hL, n_le] <;> omega)]
    exact hx x d h
  · intro K i hi ih x d h
    obtain ⟨hx', hd'⟩ := brS_lt h
    have b1' := hbd i
    have b2 := hbd x
    have b3 := hbd d
    rw [F_X11_brightest_L44, if_neg (by rw [hL, n_le] <;> omega)]
    simp (disch := omega) only [lb, lit32, litL, cm0, t_u, if10L, hg i hi, n_bx, n_cl, cmge, cmle, r1 i (by omega), r1 x (by omega), r1 d (by omega), L_le, nI_1, nI_add]
    rw [brS_s, h] at ih
    cases hp : p i with
    | false =>
      rw [if_pos rfl]
      rw [hp] at ih
      exact ih x d (by simp)
    | true =>
      rw [if_neg (by simp)]
      rw [hp] at ih
      simp only [if_true, br1, Option.some.injEq, Prod.mk.injEq] at ih
      by_cases c1 : liT ps i ≤ liT ps x
      · rw [if_pos c1]
        by_cases c2 : liT ps d ≤ liT ps i
        · rw [if_pos c2]
          exact ih x d ⟨if_neg (by omega), if_neg (by omega)⟩
        · rw [if_neg c2]
          exact ih x i ⟨if_neg (by omega), if_pos (by omega)⟩
      · rw [if_neg c1]
        by_cases c2 : liT ps d ≤ liT ps i
        · rw [if_pos c2]
          exact ih i d ⟨if_pos (by omega), if_neg (by omega)⟩
        · rw [if_neg c2]
          exact ih i i ⟨if_pos (by omega), if_pos (by omega)⟩
def brI : Option (Nat × Nat) → Int32 × Int32
  | none => (-nI 2, -nI 1)
  | some (x, d) => (nI x, nI d)
theorem X12_br_L {B : Bd} (hB : OkB B) (ps : List Pa) (hbd : ∀ k, liT ps k < 10000000000000) (p : Nat → Bool) (I : HI) (J : HJ) (hL : I m_self f_Model_lamps = nI (bL B)) (hbr : ∀ k, k < bL B → F_X12_isBright (nI k) I J = some (b1 (p k))) (r1 : ∀ k, k < bL B → J m_light k = lN (liT ps k)) (kx : Int32 → Int32 → Option (Int32 × HI × HJ)) (Q : Int32 × HI × HJ → Prop)
    (hx : Ok (kx (brI (brS p (liT ps) (bL B))).1 (brI (brS p (liT ps) (bL B))).2) Q) :
    ∀ K i, i ≤ bL B → bL B - i < K → Ok (F_X12_brightest_L17 I J kx K (brI (brS p (liT ps) i)).1 (brI (brS p (liT ps) i)).2 (nI i)) Q := by
  have h60 := hB.2.2.1
  refine up ?_ ?_
  · intro K
    rw [F_X12_brightest_L17, if_pos (by rw [hL, n_le] <;> omega)]
    exact hx
  · intro K i hi ih
    have b1' := hbd i
    rw [F_X12_brightest_L17, if_neg (by rw [hL, n_le] <;> omega), hbr i hi]
    rw [brS_s] at ih
    simp only [cp, Option.bind_some, lb, lit32, nI_1, nI_add]
    cases hp : p i with
    | false =>
      rw [hp] at ih
      refine Ok.t (by decide) ?_
      simpa using ih
    | true =>
      rw [hp] at ih
      simp only [if_true] at ih
      refine Ok.f (by decide) ?_
      cases hb : brS p (liT ps) i with
      | none =>
        rw [hb] at ih
        simp only [brI, br1] at ih ⊢
        refine Ok.t (by decide) (Ok.t trivial ih)
      | some xd =>
        obtain ⟨x, d⟩ := xd
        obtain ⟨hx', hd'⟩ := brS_lt hb
        have b2 := hbd x
        have b3 := hbd d
        rw [hb] at ih
        simp only [brI, br1] at ih ⊢
        refine Ok.f (n_nn (by omega)) ?_
        simp (disch := omega) only [n_bx, n_cl, cmge, cmle, r1 i hi, r1 x (by omega), r1 d (by omega), L_le, n_ne1, if_false]
        by_cases c1 : liT ps i ≤ liT ps x
        · rw [if_neg (show ¬ liT ps x < liT ps i by omega)] at ih
          rw [if_pos c1]
          by_cases c2 : liT ps d ≤ liT ps i
          · rw [if_neg (by omega)] at ih
            rw [if_pos c2]; exact ih
          · rw [if_pos (by omega)] at ih
            rw [if_neg c2]; exact ih
        · rw [if_pos (show liT ps x < liT ps i by omega)] at ih
          rw [if_neg c1]
          by_cases c2 : liT ps d ≤ liT ps i
          · rw [if_neg (by omega)] at ih
            rw [if_pos c2]; exact ih
          · rw [if_pos (by omega)] at ih
            rw [if_neg c2]; exact ih
theorem OP14 (n : Nat) (b : Bool) (I : HI) (J : HJ) (a1 a2 a3 a4 : Int32) (h : Iv (n + 1) b I J) : Op14 (Iv n) b I J a1 a2 a3 a4 := by
  obtain ⟨B, nb, h⟩ := h
  have hB := h.1
  have hW := hB.2.1
  have h60 := hB.2.2.1
  have hM := h.2.2.1
  have hX := h.2.1
  have hN := h.2.2.2.2.1
  generalize hps : ptF B 0 (bi (I x_notes f_Notes_high)) (bi (I x_notes f_Notes_low)) = ps
  have hbd : ∀ k, liT ps k < 10000000000000 := by rw [← hps]; exact (ptF_ok hB (nF_0 B) hN.2.2.1.1).2.1
  obtain ⟨p, hp⟩ : ∃ p : Nat → Bool, p = fun l => decide (0 < liT ps l) && decide (bF B * 27720 ≤ 100 * liT ps l) := ⟨_, rfl⟩
  have hgw : gwT B ps = stN (bL B) p := by rw [hp]; rfl
  refine bothF (P := fun q => CFlow q.2.1 q.2.2 ∧ ((brS p (liT ps) (bL B) = none ∧ q.1 = -2 ∧ CTold q.2.1 q.2.2) ∨ ∃ x d, brS p (liT ps) (bL B) = some (x, d) ∧ q.1 = nI x ∧ tX [lN (liT ps x), Int32.toInt64 (nI d), lN (liT ps d)] q.2.1 q.2.2)) ?_ (fr_X11_brightest I J) (fun I1 J1 => fr_X12_brightest I1 J1) ?_
  · unfold F_X11_brightest
    refine Ok.call ((X1_glowingF hB _ _ hN.2.2.1.1 I J hX h.2.2.2.2.2.2.2.2.2.2.1).fo (fr_X1_glowing _ _ _ _)) (fun r I1 J1 _ hP => ?_)
    obtain ⟨q1, q2, q3⟩ := hP
    have hfl := gQ_flow hB (nF_0 B) hN.2.2.1.1 q1
    have qr : r = gwT B ps := by rw [← hps]; exact q1.1
    have r1 : ∀ k, k < 64 → J1 x_flow_light k = lN (liT ps k) := by rw [← hps]; exact q1.2.1
    simp only at q2 q3 hfl
    have hg : ∀ k, bt r k = (decide (k < bL B) && p k) := fun k => by rw [qr, hgw, stN_b (by omega)]
    by_cases c : r = 0
    · refine Ok.t (show lg_cmp r 0 = 0 by rw [lg_cmp_eq]; exact c) (Ok.mk ⟨hfl, Or.inl ⟨?_, rfl, h.2.2.2.2.2.1.keep (Ag.of q2 (by decide)) (Ag.of q3 (by decide))⟩⟩)
      refine brS_0 (fun k hk => ?_)
      have := hg k
      rw [c, bt_0] at this
      simpa [hk] using this.symm
    · refine Ok.f (show ¬ lg_cmp r 0 = 0 by rw [lg_cmp_eq]; exact c) ?_
      obtain ⟨k, k1, k2, k3, k4⟩ := ntN (x := r) c
      rw [hg] at k3
      simp only [Bool.and_eq_true, decide_eq_true_eq] at k3
      refine Ok.cpe k2 (Ok.lbv ?_)
      rw [lit32, nI_add]
      have hk0 : brS p (liT ps) (k + 1) = some (k, k) := by
        rw [brS_s, k3.2, brS_0 (fun j hj => ?_)]
        · rfl
        · have := hg j
          rw [k4 j hj] at this
          have hjl : j < bL B := by omega
          simpa [hjl] using this.symm
      have hL1 : I1 x_board f_Board_lamps = nI (bL B) := by rw [q2 _ _ rfl]; exact hX.2.1
      refine X11_br_L hB ps hbd p r (fun j hj => by rw [hg]; simp [hj]) I1 J1 hL1 r1 _ _ ?_ bgf (k + 1) (by omega) (by unfold bgf; omega) k k hk0
      intro x d hxd
      obtain ⟨hx', hd'⟩ := brS_lt hxd
      obtain ⟨c1, c2⟩ := tX_0 I1 J1
      refine Ok.cle c1 (Ok.bxe (by omega) (by omega) ?_)
      have sc : Sm [(x_told, some f_Told_size)] I1 (ui I1 x_told f_Told_size 0) := Sm.mi rfl Sm.rf
      rw [n_cl (by omega), r1 x (by omega)]
      refine Ok.call ((tX_add c2 _ (by simp)).fo (fr_X10_add _ _ _)) (fun r I3 J3 _ hP => ?_)
      obtain ⟨d1, d2, d3⟩ := hP
      simp only at d1 d2 d3
      refine Ok.call ((tX_add d1 _ (by simp)).fo (fr_X10_add _ _ _)) (fun r I4 J4 _ hP => ?_)
      obtain ⟨f1, f2, f3⟩ := hP
      simp only at f1 f2 f3
      refine Ok.bxe (by omega) (by omega) ?_
      rw [n_cl (by omega), f3 _ _ rfl, d3 _ _ rfl, r1 d (by omega)]
      refine Ok.call ((tX_add f1 _ (by simp)).fo (fr_X10_add _ _ _)) (fun r I5 J5 _ hP => ?_)
      obtain ⟨g1, g2, g3⟩ := hP
      simp only at g1 g2 g3
      refine Ok.mk ⟨?_, Or.inr ⟨x, d, hxd, rfl, g1⟩⟩
      exact hfl.keep (Ag.tr (Ag.two sc d2 (by decide) (by decide)) (Ag.two f2 g2 (by decide) (by decide))) (Ag.tr (Ag.of d3 (by decide)) (Ag.two f3 g3 (by decide) (by decide)))
  · intro r I1 J1 hP s1 s2
    obtain ⟨hF1, hcs⟩ := hP
    simp only at hF1 hcs
    have sT := th_s I1 0
    have hM2 : MB B (ui I1 m_self f_Model_thrown 0) := hM.keep (Ag.two s1 sT (by decide) (by decide))
    unfold F_X12_brightest
    refine Ok.lbv ?_
    refine Ok.call ((X12_countAll hB none trivial _ _ hN.2.2.1.1 _ J1 hM2 (by rw [sT _ _ rfl, s1 _ _ rfl]; exact hN.1) (by rw [sT _ _ rfl, s1 _ _ rfl]; exact hN.2.1)).fo (fr_X12_countAll _ _ _)) (fun r' I3 J3 _ hP => ?_)
    obtain ⟨⟨p1, p2, p3, p4⟩, p5, p6⟩ := hP
    rw [hps] at p1
    simp only at p1 p4 p5 p6
    have hM3 : MB B I3 := hM2.keep (Ag.of p5 (by decide))
    have hbr : ∀ k, k < bL B → F_X12_isBright (nI k) I3 J3 = some (b1 (p k)) := fun k hk => by
      rw [hp]; exact X12_bright hB ps hbd I3 J3 hM3.2.2.2.2.1 (fun k hk => (p1 k hk).1) k hk
    refine X12_br_L hB ps hbd p I3 J3 hM3.2.1 hbr (fun k hk => (p1 k hk).1) _ _ ?_ bgf 0 (by omega) (by unfold bgf; omega)
    rcases hcs with ⟨hb, hr, hT⟩ | ⟨x, d, hb, hr, hT⟩
    · rw [hb]
      simp only [brI]
      refine Ok.f (by decide) (Ok.mk ⟨hr.symm, fun t1 t2 => ?_⟩)
      dsimp only at t1 t2 ⊢
      obtain ⟨kX, kM, kTx, kN, _, kP, k0, k1, kTb, _, _, kB⟩ := IV_k h s1 s2 t1 t2
      have hT2 : CTold I3 J3 := CTold.keep hT (Ag.two sT p5 (by decide) (by decide)) (Ag.of p6 (by decide))
      exact ⟨B, nb, hB, kX (by decide), kM (by decide), kTx (by decide), kN (by decide), hT2, kP (by decide), k0 (by decide), k1 (by decide), kTb (by decide), hF1.keep (Ag.of t1 (by decide)) (Ag.of t2 (by decide)), p4, kB (by decide)⟩
    · rw [hb]
      simp only [brI]
      obtain ⟨hx', hd'⟩ := brS_lt hb
      refine Ok.t (nI_pos' (by omega)) (Ok.lbv (Ok.bxe (by omega) (by omega) ?_))
      have sc : Sm [(m_self, some f_Model_rowMany)] I3 (ui I3 m_self f_Model_rowMany 0) := Sm.mi rfl Sm.rf
      have c2 : tM [] (ui I3 m_self f_Model_rowMany 0) J3 := ⟨by rw [ui_r]; rfl, fun k hk => by simp at hk⟩
      rw [n_cl (by omega), (p1 x hx').1]
      refine Ok.call ((tM_add c2 _ (by simp)).fo (fr_X12_tell _ _ _)) (fun r I5 J5 _ hP => ?_)
      obtain ⟨d1, d2, d3⟩ := hP
      simp only at d1 d2 d3
      refine Ok.call ((tM_add d1 _ (by simp)).fo (fr_X12_tell _ _ _)) (fun r I6 J6 _ hP => ?_)
      obtain ⟨f1, f2, f3⟩ := hP
      simp only at f1 f2 f3
      refine Ok.bxe (by omega) (by omega) ?_
      rw [n_cl (by omega), f3 _ _ rfl, d3 _ _ rfl, (p1 d hd').1]
      refine Ok.call ((tM_add f1 _ (by simp)).fo (fr_X12_tell _ _ _)) (fun r I7 J7 _ hP => ?_)
      obtain ⟨g1, g2, g3⟩ := hP
      simp only at g1 g2 g3
      refine Ok.mk ⟨hr.symm, fun t1 t2 => ?_⟩
      dsimp only at t1 t2 ⊢
      obtain ⟨kX, kM, kTx, kN, _, kP, k0, k1, kTb, _, _, kB⟩ := IV_k h s1 s2 t1 t2
      refine ⟨B, nb, hB, kX (by decide), kM (by decide), kTx (by decide), kN (by decide), CTold.of (hT.keep (Ag.of t1 (by decide)) (Ag.of t2 (by decide))) g1, kP (by decide), k0 (by decide), k1 (by decide), kTb (by decide), hF1.keep (Ag.of t1 (by decide)) (Ag.of t2 (by decide)), ?_, kB (by decide)⟩
      exact p4.keep (Ag.tr (Ag.two sc d2 (by decide) (by decide)) (Ag.two f2 g2 (by decide) (by decide)))

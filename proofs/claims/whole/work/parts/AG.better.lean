/-! LAYER 2: better: two lamps traded -/
theorem sw_sw {B : Bd} {p q : Nat} (hpq : p ≠ q) : swB (swB B p q) p q = B := by
  funext a j
  by_cases c : a = 2 ∨ a = 3
  · show (if a = 2 ∨ a = 3 then (if j = q then swB B p q a p else if j = p then swB B p q a q else swB B p q a j) else swB B p q a j) = B a j
    rw [if_pos c]
    have e : ∀ j, swB B p q a j = if j = q then B a p else if j = p then B a q else B a j := fun j => if_pos c
    rw [e p, e q, e j, if_neg hpq, if_pos rfl, if_pos rfl]
    by_cases d : j = q
    · rw [if_pos d, d]
    · rw [if_neg d]
      by_cases f : j = p
      · rw [if_pos f, f]
      · rw [if_neg f, if_neg d, if_neg f]
  · rw [swO _ _ _ _ _ (by omega), swO _ _ _ _ _ (by omega)]
noncomputable def pvS (B : Bd) (p : Int64) (i j : Nat) : Int32 := if prT (swB B i j) p < 99 then nI (prT (swB B i j) p) else -2
theorem X11_partTraded {B : Bd} (hB : OkB B) (hW : bW B ≤ 7) {p : Int64} (hp12 : pc p ≤ 12) {i j : Nat} (hi : i < bL B) (hj : j < bL B) (hij : i ≠ j) (I : HI) (J : HJ) (hX : XB B I J) (hF : CFlow I J) : Ok (F_X11_partTraded p (nI i) (nI j) I J) (fun q => q.1 = pvS B p i j ∧ XB B q.2.1 q.2.2 ∧ CFlow q.2.1 q.2.2 ∧ q.2.1 x_table f_Table_fresh = 0) := by
  have hB' := swB_ok hB hi hj
  have hW' : bW (swB B i j) ≤ 7 := hW
  unfold F_X11_partTraded
  refine Ok.call ((X0_trade hB hi hj hij I J hX).fo (fr_X0_trade _ _ I J)) (fun r I3 J4 _ hP => ?_)
  obtain ⟨hX3, s1, s2⟩ := hP
  simp only at hX3 s1 s2
  refine Ok.lbv ?_
  have sF : Sm [(x_table, some f_Table_fresh)] I3 (ui I3 x_table f_Table_fresh 0) := Sm.mi rfl Sm.rf
  have hX5 : XB (swB B i j) (ui I3 x_table f_Table_fresh 0) J4 := hX3.keep (Ag.of sF (by decide)) (fun _ _ _ => rfl)
  have hF5 : CFlow (ui I3 x_table f_Table_fresh 0) J4 := hF.keep (Ag.two s1 sF (by decide) (by decide)) (Ag.of s2 (by decide))
  refine Ok.call ((X8_refresh hB' hW' _ J4 hX5 (tab_n (by rw [ui_r])) hF5).fo (fr_X8_refresh _ J4)) (fun r I6 J7 _ hP => ?_)
  obtain ⟨hR, t1, t2⟩ := hP
  simp only at hR t1 t2
  have hX6 : XB (swB B i j) I6 J7 := hX5.keep (Ag.of t1 (by decide)) (Ag.of t2 (by decide))
  refine Ok.call ((X4_open hp12 I6 J7 hR.1).fo (fr_X4_open _ I6 J7)) (fun r I8 J9 _ hP => ?_)
  obtain ⟨⟨o1, o2, o3⟩, u1, u2⟩ := hP
  simp only at o1 o2 o3 u1 u2
  have hX8 : XB (swB B i j) I8 J9 := hX6.keep (Ag.of u1 (by decide)) (Ag.of u2 (by decide))
  have hR8 : rfQ (swB B i j) I8 J9 := hR.keep (Ag.of u1 (by decide)) (Ag.of u2 (by decide)) (Ag.of u1 (by decide)) (Ag.of u2 (by decide))
  refine Ok.call ((X4_partB hW' (lsP_12 hp12) I8 J9 hR8.1.2.1 o1 o2).fo (fr_X4_part I8 J9)) (fun r I11 J12 _ hP => ?_)
  obtain ⟨⟨w1, w2⟩, v1, v2⟩ := hP
  simp only at w1 w2 v1 v2
  have hr : r = pvS B p i j := by
    unfold pvS
    rcases w2 with ⟨g1, g2, _⟩ | ⟨g1, g2⟩
    · rw [if_pos g1, g2]
    · rw [if_neg g1, g2]
  have hX11 : XB (swB B i j) I11 J12 := hX8.keep (Ag.of v1 (by decide)) (Ag.of v2 (by decide))
  have hF11 : CFlow I11 J12 := hR8.2.2.keep (Ag.of v1 (by decide)) (Ag.of v2 (by decide))
  refine Ok.call ((X0_trade hB' (p := i) (q := j) hi hj hij I11 J12 hX11).fo (fr_X0_trade _ _ I11 J12)) (fun r2 I13 J14 _ hP => ?_)
  obtain ⟨hX13, x1, x2⟩ := hP
  simp only at hX13 x1 x2
  rw [sw_sw hij] at hX13
  have sG : Sm [(x_table, some f_Table_fresh)] I13 (ui I13 x_table f_Table_fresh 0) := Sm.mi rfl Sm.rf
  exact Ok.lbv (Ok.mk ⟨hr, hX13.keep (Ag.of sG (by decide)) (fun _ _ _ => rfl), hF11.keep (Ag.two x1 sG (by decide) (by decide)) (Ag.of x2 (by decide)), by dsimp only; rw [ui_r]⟩)
/-- the best trade, as far as looked -/
def trQ (st : Option (Nat × Nat × Nat)) (l3 l4 l5 : Int32) : Prop := match st with | none => l3 = -2 | some (v, i, j) => l3 = nI v ∧ l4 = nI i ∧ l5 = nI j ∧ v ≤ 12
noncomputable def bt1 (B : Bd) (p : Int64) (st : Option (Nat × Nat × Nat)) (i j : Nat) : Option (Nat × Nat × Nat) := if prT (swB B i j) p < 99 then (match st with | none => some (prT (swB B i j) p, i, j) | some (v, a, c) => if v ≤ prT (swB B i j) p then some (v, a, c) else some (prT (swB B i j) p, i, j)) else st
noncomputable def btJ (B : Bd) (p : Int64) (i : Nat) (st : Option (Nat × Nat × Nat)) : Nat → Option (Nat × Nat × Nat)
  | 0 => st
  | d+1 => bt1 B p (btJ B p i st d) i (i + 1 + d)
noncomputable def btI (B : Bd) (p : Int64) : Nat → Option (Nat × Nat × Nat)
  | 0 => none
  | i+1 => btJ B p i (btI B p i) (bL B - (i + 1))
theorem prT_sw {B : Bd} {p : Int64} (hp12 : pc p ≤ 12) (h : prT B p < 99) : prT B p ≤ 12 := by
  have := prT_12 (lsP_12 hp12) h
  have := lsP_12 hp12
  omega
theorem X11_better_82 {B : Bd} (hB : OkB B) (hW : bW B ≤ 7) {k : Nat} (hk : k < 4) {p : Int64} (hp12 : pc p ≤ 12) {i : Nat} (hi : i < bL B) {l2 : Int32} (I0 : HI) (J0 : HJ) {kx : Int32 → Int32 → Int32 → HI → HJ → Option (Int32 × HI × HJ)} {Q : Int32 × HI × HJ → Prop} {st : Option (Nat × Nat × Nat)} (hx : ∀ l3 l4 l5 I J, trQ (btJ B p i st (bL B - (i + 1))) l3 l4 l5 → XB B I J → CFlow I J → I x_table f_Table_fresh = 0 ∨ CTab B I J → (J x_notes_pictures k = p ∧ Sm wi_X11_partTraded I0 I ∧ Sm wj_X11_partTraded J0 J) → Ok (kx l3 l4 l5 I J) Q) : ∀ K d, d ≤ bL B - (i + 1) → bL B - (i + 1) - d < K → ∀ l3 l4 l5 I J, trQ (btJ B p i st d) l3 l4 l5 → XB B I J → CFlow I J → I x_table f_Table_fresh = 0 ∨ CTab B I J → (J x_notes_pictures k = p ∧ Sm wi_X11_partTraded I0 I ∧ Sm wj_X11_partTraded J0 J) → Ok (F_X11_better_L82 (nI k) l2 (nI i) kx K l3 l4 l5 (nI (i + 1 + d)) I J) Q := by
  have h60 := hB.2.2.1
  refine up ?_ ?_
  · intro K l3 l4 l5 I J h1 h2 h3 h4 h5
    rw [F_X11_better_L82]
    exact Ok.t (by rw [h2.2.1, n_le] <;> omega) (hx l3 l4 l5 I J h1 h2 h3 h4 h5)
  · intro K d hd ih l3 l4 l5 I J h1 h2 h3 h4 h5
    rw [F_X11_better_L82]
    refine Ok.f (by rw [h2.2.1, n_le] <;> omega) (Ok.bxe (by omega) (by omega) ?_)
    rw [n_cl (by omega), h5.1]
    refine Ok.call ((X11_partTraded hB hW hp12 hi (show i + 1 + d < bL B by omega) (by omega) I J h2 h3).fo (fr_X11_partTraded _ _ _ I J)) (fun r I8 J9 _ hP => ?_)
    obtain ⟨⟨q1, q2, q3, q4⟩, s1, s2⟩ := hP
    simp only at q1 q2 q3 q4 s1 s2
    have h5' : J9 x_notes_pictures k = p ∧ Sm wi_X11_partTraded I0 I8 ∧ Sm wj_X11_partTraded J0 J9 := ⟨by rw [s2 _ _ rfl]; exact h5.1, Sm.tr (by decide) h5.2.1 s1, Sm.tr (by decide) h5.2.2 s2⟩
    refine Ok.lbv ?_
    have e : btJ B p i st (d + 1) = bt1 B p (btJ B p i st d) i (i + 1 + d) := rfl
    rw [show nI (i + 1 + d) + 1 = nI (i + 1 + (d + 1)) from nI_1 _]
    rw [q1]
    unfold pvS
    by_cases c : prT (swB B i (i + 1 + d)) p < 99
    · have hv := prT_sw hp12 c
      rw [if_pos c]
      refine Ok.f (n_nn (by omega)) (Ok.lbv ?_)
      cases hs : btJ B p i st d with
      | none =>
        rw [hs] at h1
        have h1' : l3 = -2 := h1
        refine Ok.t (by rw [h1']; decide) (ih _ _ _ I8 J9 ?_ q2 q3 (Or.inl q4) h5')
        rw [e, hs]
        unfold bt1
        rw [if_pos c]
        exact ⟨rfl, rfl, rfl, hv⟩
      | some t =>
        obtain ⟨v, a, c2⟩ := t
        rw [hs] at h1
        obtain ⟨g1, g2, g3, g4⟩ : l3 = nI v ∧ l4 = nI a ∧ l5 = nI c2 ∧ v ≤ 12 := h1
        rw [g1]
        refine Ok.f (n_nn (by omega)) ?_
        by_cases f : v ≤ prT (swB B i (i + 1 + d)) p
        · refine Ok.t (by rw [n_le] <;> omega) (ih _ _ _ I8 J9 ?_ q2 q3 (Or.inl q4) h5')
          rw [e, hs]
          unfold bt1
          rw [if_pos c]
          show trQ (if v ≤ prT (swB B i (i + 1 + d)) p then _ else _) _ _ _
          rw [if_pos f]
          exact ⟨rfl, g2, g3, g4⟩
        · refine Ok.f (by rw [n_le] <;> omega) (ih _ _ _ I8 J9 ?_ q2 q3 (Or.inl q4) h5')
          rw [e, hs]
          unfold bt1
          rw [if_pos c]
          show trQ (if v ≤ prT (swB B i (i + 1 + d)) p then _ else _) _ _ _
          rw [if_neg f]
          exact ⟨rfl, rfl, rfl, hv⟩
    · rw [if_neg c]
      refine Ok.t (by decide) (ih _ _ _ I8 J9 ?_ q2 q3 (Or.inl q4) h5')
      rw [e]
      unfold bt1
      rw [if_neg c]
      exact h1
theorem X11_better_64 {B : Bd} (hB : OkB B) (hW : bW B ≤ 7) {k : Nat} (hk : k < 4) {p : Int64} (hp12 : pc p ≤ 12) {l2 : Int32} (I0 : HI) (J0 : HJ) {kx : Int32 → Int32 → Int32 → HI → HJ → Option (Int32 × HI × HJ)} {Q : Int32 × HI × HJ → Prop} (hx : ∀ l3 l4 l5 I J, trQ (btI B p (bL B)) l3 l4 l5 → XB B I J → CFlow I J → I x_table f_Table_fresh = 0 ∨ CTab B I J → (J x_notes_pictures k = p ∧ Sm wi_X11_partTraded I0 I ∧ Sm wj_X11_partTraded J0 J) → Ok (kx l3 l4 l5 I J) Q) : ∀ K i, i ≤ bL B → bL B - i < K → ∀ l3 l4 l5 I J, trQ (btI B p i) l3 l4 l5 → XB B I J → CFlow I J → I x_table f_Table_fresh = 0 ∨ CTab B I J → (J x_notes_pictures k = p ∧ Sm wi_X11_partTraded I0 I ∧ Sm wj_X11_partTraded J0 J) → Ok (F_X11_better_L64 (nI k) l2 kx K l3 l4 l5 (nI i) I J) Q := by
  have h60 := hB.2.2.1
  refine up ?_ ?_
  · intro K l3 l4 l5 I J h1 h2 h3 h4 h5
    rw [F_X11_better_L64]
    exact Ok.t (by rw [h2.2.1, n_le] <;> omega) (hx l3 l4 l5 I J h1 h2 h3 h4 h5)
  · intro K i hi ih l3 l4 l5 I J h1 h2 h3 h4 h5
    rw [F_X11_better_L64]
    refine Ok.f (by rw [h2.2.1, n_le] <;> omega) (Ok.lbv ?_)
    rw [nI_1]
    exact X11_better_82 hB hW hk hp12 hi I0 J0 (st := btI B p i) (fun a b c I' J' g1 g2 g3 g4 g5 => ih a b c I' J' g1 g2 g3 g4 g5) bgf 0 (Nat.zero_le _) (by unfold bgf; omega) l3 l4 l5 I J h1 h2 h3 h4 h5
-- the reference
def btrW : Pl := wi_X12_findParted ++ wi_X12_change
theorem X12_better_97 {B : Bd} (hB : OkB B) (hW : bW B ≤ 7) {k : Nat} (hk : k < 4) {p : Int64} (hok : okLp (bL B) p) (hp12 : pc p ≤ 12) {i : Nat} (hi : i < bL B) {l2 : Int32} (I0 : HI) (J0 : HJ) {kx : Int32 → Int32 → Int32 → HI → HJ → Option (Int32 × HI × HJ)} {Q : Int32 × HI × HJ → Prop} {st : Option (Nat × Nat × Nat)} (hx : ∀ l3 l4 l5 I J, trQ (btJ B p i st (bL B - (i + 1))) l3 l4 l5 → MB B I → CMod I → (J m_pictures k = p ∧ Sm btrW I0 I ∧ Sm wj_X12_findParted J0 J) → Ok (kx l3 l4 l5 I J) Q) : ∀ K d, d ≤ bL B - (i + 1) → bL B - (i + 1) - d < K → ∀ l3 l4 l5 I J, trQ (btJ B p i st d) l3 l4 l5 → MB B I → CMod I → (J m_pictures k = p ∧ Sm btrW I0 I ∧ Sm wj_X12_findParted J0 J) → Ok (F_X12_better_L97 (nI k) l2 (nI i) kx K l3 l4 l5 (nI (i + 1 + d)) I J) Q := by
  have h60 := hB.2.2.1
  refine up ?_ ?_
  · intro K l3 l4 l5 I J h1 h2 h3 h5
    rw [F_X12_better_L97]
    exact Ok.t (by rw [h2.2.1, n_le] <;> omega) (hx l3 l4 l5 I J h1 h2 h3 h5)
  · intro K d hd ih l3 l4 l5 I J h1 h2 h3 h5
    have hj : i + 1 + d < bL B := by omega
    have hij : i ≠ i + 1 + d := by omega
    have hB' := swB_ok hB hi hj
    rw [F_X12_better_L97]
    refine Ok.f (by rw [h2.2.1, n_le] <;> omega) ?_
    refine Ok.call ((X12_change hB hi hj hij I J h2).fo (fr_X12_change _ _ I J)) (fun r I14 J15 _ hP => ?_)
    obtain ⟨q1, s1, s2⟩ := hP
    simp only at q1 s1 s2
    refine Ok.bxe (by omega) (by omega) ?_
    rw [n_cl (by omega), s2 m_pictures _ rfl, h5.1]
    refine Ok.call ((X12_findParted hB' (show bW (swB B i (i + 1 + d)) ≤ 7 from hW) (show okLp (bL (swB B i (i + 1 + d))) p from hok) hp12 I14 J15 q1 (h3.keep (Ag.of s1 (by decide)))).fo (fr_X12_findParted _ I14 J15)) (fun r I17 J18 _ hP => ?_)
    obtain ⟨⟨w1, w2, _, _, w4⟩, t1, t2⟩ := hP
    simp only at w1 w2 w4 t1 t2
    have hp18 : J18 m_pictures k = p ∧ Sm btrW I0 I17 ∧ Sm wj_X12_findParted J0 J18 := ⟨by rw [t2 _ _ rfl, s2 _ _ rfl]; exact h5.1, Sm.tr (by decide) (Sm.tr (by decide) h5.2.1 s1) t1, Sm.tr (by decide) (Sm.tr (by decide) h5.2.2 s2) t2⟩
    refine Ok.lbv (Ok.lbv ?_)
    have back : ∀ (F : Int32 → HI → HJ → Option (Int32 × HI × HJ)), (∀ I21 J22, Sm wi_X12_change I17 I21 → MB B I21 → CMod I21 → (J22 m_pictures k = p ∧ Sm btrW I0 I21 ∧ Sm wj_X12_findParted J0 J22) → Ok (F 0 I21 J22) Q) → Ok (cl (F_X12_change (nI i) (nI (i + 1 + d)) I17 J18) fun _ I21 J22 => F 0 I21 J22) Q := by
      intro F hF
      refine Ok.call ((X12_change hB' (p := i) (q := i + 1 + d) hi hj hij I17 J18 w1).fo (fr_X12_change _ _ I17 J18)) (fun r I21 J22 _ hP => ?_)
      obtain ⟨x1, y1, y2⟩ := hP
      simp only at x1 y1 y2
      rw [sw_sw hij] at x1
      exact hF I21 J22 y1 x1 (w2.keep (Ag.of y1 (by decide))) ⟨by rw [y2 _ _ rfl]; exact hp18.1, Sm.tr (by decide) hp18.2.1 y1, Sm.tr (by decide) hp18.2.2 y2⟩
    have e : btJ B p i st (d + 1) = bt1 B p (btJ B p i st d) i (i + 1 + d) := rfl
    have en : nI (i + 1 + d) + 1 = nI (i + 1 + (d + 1)) := nI_1 _
    rcases w4 with ⟨g1, g2, g3⟩ | ⟨g1, g2⟩
    · have hv := prT_sw (B := swB B i (i + 1 + d)) hp12 g1
      have hlen := prL_len g1
      have take : (∀ st', btJ B p i st (d + 1) = st' → trQ st' (nI (prT (swB B i (i + 1 + d)) p)) (nI i) (nI (i + 1 + d))) → Ok (cl (F_X12_change (nI i) (nI (i + 1 + d)) I17 J18) fun _ I21 J22 => lb (fun (y23 : Int32) (y24 : Int32) (y25 : Int32) => F_X12_better_L97 (nI k) l2 (nI i) kx K y23 y24 y25 (nI (i + 1 + d) + 1) I21 J22) fun j26 => if (1 : Int32) = 0 then j26 l3 l4 l5 else lb ((I21 m_self f_Model_turns)) fun x27 => j26 x27 (nI i) (nI (i + 1 + d))) Q := by
        intro hst
        refine back (fun _ I21 J22 => lb (fun (y23 : Int32) (y24 : Int32) (y25 : Int32) => F_X12_better_L97 (nI k) l2 (nI i) kx K y23 y24 y25 (nI (i + 1 + d) + 1) I21 J22) fun j26 => if (1 : Int32) = 0 then j26 l3 l4 l5 else lb ((I21 m_self f_Model_turns)) fun x27 => j26 x27 (nI i) (nI (i + 1 + d))) (fun I21 J22 y1 x1 x2 x3 => Ok.lbv (Ok.f (by decide) (Ok.lbv ?_)))
        rw [y1 _ _ rfl, g3.1, en, hlen]
        exact ih _ _ _ I21 J22 (hst _ rfl) x1 x2 x3
      have leave : trQ (btJ B p i st (d + 1)) l3 l4 l5 → Ok (cl (F_X12_change (nI i) (nI (i + 1 + d)) I17 J18) fun _ I21 J22 => lb (fun (y23 : Int32) (y24 : Int32) (y25 : Int32) => F_X12_better_L97 (nI k) l2 (nI i) kx K y23 y24 y25 (nI (i + 1 + d) + 1) I21 J22) fun j26 => if (0 : Int32) = 0 then j26 l3 l4 l5 else lb ((I21 m_self f_Model_turns)) fun x27 => j26 x27 (nI i) (nI (i + 1 + d))) Q := by
        intro hst
        refine back (fun _ I21 J22 => lb (fun (y23 : Int32) (y24 : Int32) (y25 : Int32) => F_X12_better_L97 (nI k) l2 (nI i) kx K y23 y24 y25 (nI (i + 1 + d) + 1) I21 J22) fun j26 => if (0 : Int32) = 0 then j26 l3 l4 l5 else lb ((I21 m_self f_Model_turns)) fun x27 => j26 x27 (nI i) (nI (i + 1 + d))) (fun I21 J22 y1 x1 x2 x3 => Ok.lbv (Ok.t rfl ?_))
        rw [en]
        exact ih _ _ _ I21 J22 hst x1 x2 x3
      refine Ok.f (by rw [g2]; decide) (Ok.lbv ?_)
      cases hs : btJ B p i st d with
      | none =>
        rw [hs] at h1
        have h1' : l3 = -2 := h1
        refine Ok.t (by rw [h1']; decide) (take (fun st' he => ?_))
        rw [← he, e, hs]
        unfold bt1
        rw [if_pos g1]
        exact ⟨rfl, rfl, rfl, hv⟩
      | some t =>
        obtain ⟨v, a, c2⟩ := t
        have h1o := h1
        rw [hs] at h1
        obtain ⟨f1, f2, f3, f4⟩ : l3 = nI v ∧ l4 = nI a ∧ l5 = nI c2 ∧ v ≤ 12 := h1
        refine Ok.f (by rw [f1]; exact n_nn (by omega)) ?_
        rw [g3.1, hlen]
        by_cases f : v ≤ prT (swB B i (i + 1 + d)) p
        · refine Ok.t (by rw [f1, n_le] <;> omega) (leave ?_)
          rw [e, hs]
          unfold bt1
          rw [if_pos g1]
          show trQ (if v ≤ prT (swB B i (i + 1 + d)) p then _ else _) _ _ _
          rw [if_pos f]
          exact ⟨f1, f2, f3, f4⟩
        · refine Ok.f (by rw [f1, n_le] <;> omega) (take (fun st' he => ?_))
          rw [← he, e, hs]
          unfold bt1
          rw [if_pos g1]
          show trQ (if v ≤ prT (swB B i (i + 1 + d)) p then _ else _) _ _ _
          rw [if_neg f]
          exact ⟨rfl, rfl, rfl, hv⟩
    · refine Ok.t g2 ?_
      refine back (fun _ I21 J22 => lb (fun (y23 : Int32) (y24 : Int32) (y25 : Int32) => F_X12_better_L97 (nI k) l2 (nI i) kx K y23 y24 y25 (nI (i + 1 + d) + 1) I21 J22) fun j26 => if (0 : Int32) = 0 then j26 l3 l4 l5 else lb ((I21 m_self f_Model_turns)) fun x27 => j26 x27 (nI i) (nI (i + 1 + d))) (fun I21 J22 y1 x1 x2 x3 => Ok.lbv (Ok.t rfl ?_))
      rw [en]
      refine ih _ _ _ I21 J22 ?_ x1 x2 x3
      rw [e]
      unfold bt1
      rw [if_neg g1]
      exact h1
theorem X12_better_82 {B : Bd} (hB : OkB B) (hW : bW B ≤ 7) {k : Nat} (hk : k < 4) {p : Int64} (hok : okLp (bL B) p) (hp12 : pc p ≤ 12) {l2 : Int32} (I0 : HI) (J0 : HJ) {kx : Int32 → Int32 → Int32 → HI → HJ → Option (Int32 × HI × HJ)} {Q : Int32 × HI × HJ → Prop} (hx : ∀ l3 l4 l5 I J, trQ (btI B p (bL B)) l3 l4 l5 → MB B I → CMod I → (J m_pictures k = p ∧ Sm btrW I0 I ∧ Sm wj_X12_findParted J0 J) → Ok (kx l3 l4 l5 I J) Q) : ∀ K i, i ≤ bL B → bL B - i < K → ∀ l3 l4 l5 I J, trQ (btI B p i) l3 l4 l5 → MB B I → CMod I → (J m_pictures k = p ∧ Sm btrW I0 I ∧ Sm wj_X12_findParted J0 J) → Ok (F_X12_better_L82 (nI k) l2 kx K l3 l4 l5 (nI i) I J) Q := by
  have h60 := hB.2.2.1
  refine up ?_ ?_
  · intro K l3 l4 l5 I J h1 h2 h3 h5
    rw [F_X12_better_L82]
    exact Ok.t (by rw [h2.2.1, n_le] <;> omega) (hx l3 l4 l5 I J h1 h2 h3 h5)
  · intro K i hi ih l3 l4 l5 I J h1 h2 h3 h5
    rw [F_X12_better_L82]
    refine Ok.f (by rw [h2.2.1, n_le] <;> omega) (Ok.lbv ?_)
    rw [nI_1]
    exact X12_better_97 hB hW hk hok hp12 hi I0 J0 (st := btI B p i) (fun a b c I' J' g1 g2 g3 g5 => ih a b c I' J' g1 g2 g3 g5) bgf 0 (Nat.zero_le _) (by unfold bgf; omega) l3 l4 l5 I J h1 h2 h3 h5

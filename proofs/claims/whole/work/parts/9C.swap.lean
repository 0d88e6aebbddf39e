/-! LAYER 2: swap -/
def wrQ (B : Bd) (i : Nat) (J : HJ) : Prop := ∀ w, w < 10 → ∀ l, bt (J x_board_out w) l = (decide (l < i) && decide (bA B l = w)) ∧ bt (J x_board_into w) l = (decide (l < i) && decide (bG B l = w))
theorem bt_step {x : Int64} {i l w a : Nat} {f : Nat → Nat} (hi : i < 60) (h : ∀ l, bt x l = (decide (l < i) && decide (f l = w))) (ha : f i = a) : bt (if w = a then x ||| olshl (lN 1) (nI i) else x) l = (decide (l < i + 1) && decide (f l = w)) := by
  by_cases c : w = a
  · rw [if_pos c, bt_or, h, t_one (by omega)]
    by_cases d : l = i
    · subst d; simp [ha, c]
    · have : decide (l < i + 1) = decide (l < i) := by simp; omega
      rw [this]; simp [d]
  · rw [if_neg c, h]
    by_cases d : l = i
    · subst d; rw [ha]; have : ¬ a = w := fun e => c e.symm
      simp [this]
    · have : decide (l < i + 1) = decide (l < i) := by simp; omega
      rw [this]
theorem X0_rewire {B : Bd} (h60 : bL B ≤ 60) (hb : ∀ l, l < bL B → bA B l < 10 ∧ bG B l < 10) (I : HI) (J : HJ) (hl : I x_board f_Board_lamps = nI (bL B)) (he : ∀ l, l < bL B → I x_board_from l = nI (bA B l) ∧ I x_board_goal l = nI (bG B l)) : Ok (F_X0_rewire I J) (fun q => q.2.1 = I ∧ wrQ B (bL B) q.2.2) := by
  have hlp : ∀ K i, i ≤ bL B → bL B - i < K → ∀ J, wrQ B i J → Ok (F_X0_rewire_L18 I K (nI i) J) (fun q => q.2.1 = I ∧ wrQ B (bL B) q.2.2) := by
    refine up ?_ ?_
    · intro K J hq
      rw [F_X0_rewire_L18]
      exact Ok.t (by rw [hl, n_le] <;> omega) (Ok.mk ⟨rfl, hq⟩)
    · intro K i hi ih J hq
      obtain ⟨e1, e2⟩ := he i hi
      obtain ⟨b1, b2⟩ := hb i hi
      rw [F_X0_rewire_L18]
      refine Ok.f (by rw [hl, n_le] <;> omega) ?_
      simp (disch := omega) only [n_bx, n_cl, e1, e2, lit32, litL, nI_1, nI_add, lb]
      refine ih _ (fun w hw l => ⟨?_, ?_⟩)
      · have := bt_step (x := J x_board_out w) (l := l) (f := bA B) (by omega) (fun l => (hq w hw l).1) rfl
        rw [← this]
        congr 1
        by_cases c : w = bA B i
        · rw [if_pos c, c, uj_c (by decide), uj_r]
        · rw [if_neg c, uj_c (by decide), uj_j c]
      · have := bt_step (x := J x_board_into w) (l := l) (f := bG B) (by omega) (fun l => (hq w hw l).2) rfl
        rw [← this]
        congr 1
        by_cases c : w = bG B i
        · rw [if_pos c, c, uj_r, uj_c (by decide)]
        · rw [if_neg c, uj_j c, uj_c (by decide)]
  unfold F_X0_rewire
  refine Ok.call (fl_x_board_out 0 I J) (fun r I3 J3 _ hP => ?_)
  obtain ⟨p1, p2, p3⟩ := hP
  simp only at p1 p2 p3
  subst p1
  refine Ok.call (fl_x_board_into 0 I3 J3) (fun r I5 J5 _ hP => ?_)
  obtain ⟨q1, q2, q3⟩ := hP
  simp only at q1 q2 q3
  subst q1
  refine hlp bgf 0 (Nat.zero_le _) (by unfold bgf; omega) J5 (fun w hw l => ?_)
  rw [q2 w hw, q3 _ _ rfl, p2 w hw]
  have : bt (0 : Int64) l = false := bt_z l
  simp [this]

def swB (B : Bd) (p q : Nat) : Bd := fun a j => if a = 2 ∨ a = 3 then (if j = q then B a p else if j = p then B a q else B a j) else B a j
theorem sw2 (B : Bd) (p q l : Nat) : bA (swB B p q) l = if l = q then bA B p else if l = p then bA B q else bA B l := if_pos (Or.inl rfl)
theorem sw3 (B : Bd) (p q l : Nat) : bG (swB B p q) l = if l = q then bG B p else if l = p then bG B q else bG B l := if_pos (Or.inr rfl)
theorem swO (B : Bd) (p q a j : Nat) (h : a < 2 ∨ 3 < a) : swB B p q a j = B a j := if_neg (by omega)
theorem swB_ok {B : Bd} (hB : OkB B) {p q : Nat} (hp : p < bL B) (hq : q < bL B) : OkB (swB B p q) := by
  refine ⟨hB.1, hB.2.1, hB.2.2.1, hB.2.2.2.1, hB.2.2.2.2.1, hB.2.2.2.2.2.1, hB.2.2.2.2.2.2.1, hB.2.2.2.2.2.2.2.1, hB.2.2.2.2.2.2.2.2.1, fun l hl => ?_⟩
  have hh := hB.2.2.2.2.2.2.2.2.2
  obtain ⟨a1, a2, a3, a4, a5⟩ := hh l hl
  obtain ⟨p1, p2, p3, p4, p5⟩ := hh p hp
  obtain ⟨q1, q2, q3, q4, q5⟩ := hh q hq
  rw [sw2, sw3]
  by_cases c : l = q
  · rw [if_pos c, if_pos c]; exact ⟨p1, p2, p3, a4, a5⟩
  · rw [if_neg c, if_neg c]
    by_cases d : l = p
    · rw [if_pos d, if_pos d]; exact ⟨q1, q2, q3, a4, a5⟩
    · rw [if_neg d, if_neg d]; exact ⟨a1, a2, a3, a4, a5⟩
theorem X0_trade {B : Bd} (hB : OkB B) {p q : Nat} (hp : p < bL B) (hq : q < bL B) (hpq : p ≠ q) (I : HI) (J : HJ) (hX : XB B I J) : Ok (F_X0_trade (nI p) (nI q) I J) (fun r => XB (swB B p q) r.2.1 r.2.2) := by
  have h60 := hB.2.2.1
  obtain ⟨h1, h2, h3, h4, h5, h6, h7, h8⟩ := hX
  unfold F_X0_trade
  simp (disch := omega) only [n_bx, n_cl, lb]
  obtain ⟨I5, hI5⟩ : ∃ I5, I5 = ui (ui (ui (ui I x_board_from p (I x_board_from q)) x_board_from q (I x_board_from p)) x_board_goal p (ui (ui I x_board_from p (I x_board_from q)) x_board_from q (I x_board_from p) x_board_goal q)) x_board_goal q (ui (ui I x_board_from p (I x_board_from q)) x_board_from q (I x_board_from p) x_board_goal p) := ⟨_, rfl⟩
  rw [← hI5]
  have s5 : Sm [(x_board_from, none), (x_board_goal, none)] I I5 := by rw [hI5]; exact Sm.mi rfl (Sm.mi rfl (Sm.mi rfl (Sm.mi rfl Sm.rf)))
  have hends : ∀ l, l < bL B → I5 x_board_from l = nI (bA (swB B p q) l) ∧ I5 x_board_goal l = nI (bG (swB B p q) l) := by
    intro l hl
    rw [sw2, sw3, hI5, ui_c (by decide), ui_c (by decide), ui_s, ui_s, ui_s, ui_s, ui_c (by decide), ui_c (by decide)]
    rw [(h7 p hp).1, (h7 q hq).1, (h7 l hl).1, (h7 p hp).2.1, (h7 q hq).2.1, (h7 l hl).2.1]
    by_cases c : l = q
    · rw [if_pos c, if_pos c, if_pos c, if_pos c]; exact ⟨rfl, rfl⟩
    · rw [if_neg c, if_neg c, if_neg c, if_neg c]
      by_cases d : l = p
      · rw [if_pos d, if_pos d, if_pos d, if_pos d]; exact ⟨rfl, rfl⟩
      · rw [if_neg d, if_neg d, if_neg d, if_neg d]; exact ⟨rfl, rfl⟩
  have hok := swB_ok hB hp hq
  refine Ok.call (X0_rewire (B := swB B p q) h60 (fun l hl => ?_) I5 J (by rw [s5 _ _ rfl]; exact h2) hends) (fun r I6 J6 _ hP => ?_)
  · obtain ⟨u1, u2, _⟩ := hok.2.2.2.2.2.2.2.2.2 l hl
    have := hok.2.1
    exact ⟨by omega, by omega⟩
  · obtain ⟨e, hw⟩ := hP
    simp only at e hw
    subst e
    exact Ok.mk ⟨by dsimp only; rw [s5 _ _ rfl]; exact h1, by dsimp only; rw [s5 _ _ rfl]; exact h2, by dsimp only; rw [s5 _ _ rfl]; exact h3, by dsimp only; rw [s5 _ _ rfl]; exact h4, by dsimp only; rw [s5 _ _ rfl]; exact h5, fun w hw => by dsimp only; rw [s5 _ _ rfl]; exact h6 w hw, fun l hl => ⟨(hends l hl).1, (hends l hl).2, by dsimp only; rw [s5 _ _ rfl]; exact (h7 l hl).2.2⟩, hw⟩
theorem X12_change {B : Bd} (hB : OkB B) {p q : Nat} (hp : p < bL B) (hq : q < bL B) (hpq : p ≠ q) (I : HI) (J : HJ) (hM : MB B I) : Ok (F_X12_change (nI p) (nI q) I J) (fun r => MB (swB B p q) r.2.1) := by
  have h60 := hB.2.2.1
  obtain ⟨h1, h2, h3, h4, h5, h6, h7⟩ := hM
  unfold F_X12_change
  simp (disch := omega) only [n_bx, n_cl, lb]
  obtain ⟨I5, hI5⟩ : ∃ I5, I5 = ui (ui (ui (ui I m_lampFrom p (I m_lampFrom q)) m_lampTo p (ui I m_lampFrom p (I m_lampFrom q) m_lampTo q)) m_lampFrom q (I m_lampFrom p)) m_lampTo q (I m_lampTo p) := ⟨_, rfl⟩
  rw [← hI5]
  have s5 : Sm [(m_lampFrom, none), (m_lampTo, none)] I I5 := by rw [hI5]; exact Sm.mi rfl (Sm.mi rfl (Sm.mi rfl (Sm.mi rfl Sm.rf)))
  refine Ok.mk ⟨by dsimp only; rw [s5 _ _ rfl]; exact h1, by dsimp only; rw [s5 _ _ rfl]; exact h2, by dsimp only; rw [s5 _ _ rfl]; exact h3, by dsimp only; rw [s5 _ _ rfl]; exact h4, by dsimp only; rw [s5 _ _ rfl]; exact h5, fun w hw => by dsimp only; rw [s5 _ _ rfl]; exact h6 w hw, fun l hl => ?_⟩
  dsimp only
  have e1 : I5 m_lampFrom l = if l = q then I m_lampFrom p else if l = p then I m_lampFrom q else I m_lampFrom l := by
    rw [hI5, ui_c (by decide), ui_s, ui_c (by decide), ui_s]
  have e2 : I5 m_lampTo l = if l = q then I m_lampTo p else if l = p then I m_lampTo q else I m_lampTo l := by
    rw [hI5, ui_s, ui_c (by decide), ui_s, ui_c (by decide)]
  rw [e1, e2, sw2, sw3, s5 m_volts _ rfl]
  by_cases c : l = q
  · rw [if_pos c, if_pos c, if_pos c, if_pos c]; exact ⟨(h7 p hp).1, (h7 p hp).2.1, (h7 l hl).2.2⟩
  · rw [if_neg c, if_neg c, if_neg c, if_neg c]
    by_cases d : l = p
    · rw [if_pos d, if_pos d, if_pos d, if_pos d]; exact ⟨(h7 q hq).1, (h7 q hq).2.1, (h7 l hl).2.2⟩
    · rw [if_neg d, if_neg d, if_neg d, if_neg d]; exact h7 l hl
theorem OP7 (n : Nat) (b : Bool) (I : HI) (J : HJ) (a1 a2 a3 a4 : Int32) (h : Iv (n + 1) b I J) : Op7 (Iv n) b I J a1 a2 a3 a4 := by
  obtain ⟨B, nb, h⟩ := h
  have hB := h.1
  have h60 := hB.2.2.1
  have hX := h.2.1
  have hM := h.2.2.1
  rcases X0_hasPair (J := J) (a := a1) (b := a2) h60 hX.2.1 with ⟨ok, e⟩ | ⟨nk, e⟩
  · obtain ⟨p, q, hp, hq, hpq, rfl, rfl⟩ := id ok
    refine bothF (P := fun r => r.1 = nI 1 ∧ XB (swB B p q) r.2.1 r.2.2 ∧ r.2.1 x_table f_Table_fresh = 0) ?_ (fr_X11_swap (nI p) (nI q) I J) (fun I1 J1 => fr_X12_swap (nI p) (nI q) I1 J1) ?_
    · unfold F_X11_swap
      refine Ok.cpe e (Ok.f (by decide) ?_)
      refine Ok.call (X0_trade hB hp hq hpq I J hX) (fun r I3 J3 _ hP => ?_)
      refine Ok.lbv (Ok.mk ⟨rfl, ?_, by dsimp only; rw [ui_r]⟩)
      exact hP.keep (Ag.of (w := [(x_table, none)]) (Sm.mi rfl Sm.rf) (by decide)) (fun _ _ _ => rfl)
    · intro r I1 J1 hP s1 s2
      obtain ⟨hr, hXs, hfr⟩ := hP
      simp only at hr hXs hfr
      have hM1 : MB B I1 := hM.keep (Ag.of s1 (by decide))
      have sT := th_s I1 0
      have hM2 : MB B (ui I1 m_self f_Model_thrown 0) := hM1.keep (Ag.of sT (by decide))
      unfold F_X12_swap
      refine Ok.lbv (Ok.eqe ((mPr h60 hM2.2.1).1 ok) ?_)
      refine Ok.call ((X12_change hB hp hq hpq _ J1 hM2).fo (fr_X12_change _ _ _ J1)) (fun r' I3 J3 _ hP => ?_)
      obtain ⟨hMs, u1, u2⟩ := hP
      simp only at hMs u1 u2
      refine Ok.mk ⟨hr.symm, fun t1 t2 => ?_⟩
      dsimp only at t1 t2 ⊢
      obtain ⟨_, _, kTx, kN, kTo, kP, k0, k1, _, kF, kMo, kB⟩ := IV_k h s1 s2 t1 t2
      exact ⟨swB B p q, nb, swB_ok hB hp hq, hXs.keep (Ag.of t1 (by decide)) (Ag.of t2 (by decide)), hMs, kTx (by decide), (kN (by decide)).cw rfl rfl, kTo (by decide), (kP (by decide)).cw rfl, KP.cw (k0 (by decide)) rfl, KP.cw (k1 (by decide)) rfl, tab_n (by rw [t1 _ _ rfl]; exact hfr), kF (by decide), kMo (by decide), kB (by decide)⟩
  · refine ⟨0, I, J, ui I m_self f_Model_thrown 0, J, ?_, ?_, IV_th h (th_s I 0) Sm.rf⟩
    · unfold F_X11_swap
      exact cp0 e
    · unfold F_X12_swap
      exact (lb_e _ _).trans ((mPr h60 (by rw [ui_j (by decide)]; exact hM.2.1)).2 nk)

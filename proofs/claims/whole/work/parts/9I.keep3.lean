/-! LAYER 2: keep, the call -/
theorem NTC.c {W L : Nat} {xh xl xn mh ml mn xh' xl' xn' mh' ml' mn' : Int32} {xp mp xp' mp' : Nat → Int64} {xa ma xb mb xa' ma' xb' mb' : Nat → Int32} {xg mg xg' mg' : Nat → Int64} (h : NTC W L xh xl xn mh ml mn xp mp xa ma xb mb xg mg) (e1 : xh' = xh) (e2 : xl' = xl) (e3 : xn' = xn) (e4 : mh' = mh) (e5 : ml' = ml) (e6 : mn' = mn) (p : ∀ i, i < 4 → xp' i = xp i ∧ mp' i = mp i) (s : ∀ k, k < 12 → xa' k = xa k ∧ ma' k = ma k ∧ xb' k = xb k ∧ mb' k = mb k ∧ xg' k = xg k ∧ mg' k = mg k) : NTC W L xh' xl' xn' mh' ml' mn' xp' mp' xa' ma' xb' mb' xg' mg' := by
  obtain ⟨h1, h2, h3, h4, n, h5, h6, h7, h8⟩ := h
  refine ⟨by rw [e4, e1, h1], by rw [e5, e2, h2], by rw [e1, e2]; exact h3, fun i hi => ?_, n, h5, by rw [e3, h6], by rw [e6, h7], fun k hk => ?_⟩
  · rw [(p i hi).1, (p i hi).2]; exact h4 i hi
  · obtain ⟨s1, s2, s3, s4, s5, s6⟩ := s k (by omega)
    rw [s1, s2, s3, s4, s5, s6]; exact h8 k hk
theorem KP.oth {B : Bd} {nb i ck cf cg cv cn cp ca cb cl : Nat} {I I' : HI} {J J' : HJ} (h : KP B nb i ck cf cg cv cn cp ca cb cl I J) (e1 : I' ck = I ck) (e2 : I' cf = I cf) (e3 : I' cg = I cg) (e4 : I' cv = I cv) (e5 : I' cn = I cn) (e6 : J' cp = J cp) (e7 : I' ca = I ca) (e8 : I' cb = I cb) (e9 : J' cl = J cl) (m1 : I' m_isKept i = I m_isKept i) (m2 : I' m_keptBoards i = I m_keptBoards i) (m3 : ∀ j, 208 * i ≤ j → j < 208 * i + 208 → I' m_kept j = I m_kept j) (m4 : ∀ j, 16 * i ≤ j → j < 16 * i + 16 → J' m_keptSets j = J m_keptSets j) : KP B nb i ck cf cg cv cn cp ca cb cl I' J' := by
  unfold KP at *
  rw [e1, m1, m2]
  obtain ⟨p, h1, h2, h3⟩ := h
  refine ⟨p, h1, fun hp => ?_, h3⟩
  obtain ⟨g1, g2, g3⟩ := h2 hp
  refine ⟨g1, g2, ?_⟩
  unfold KPt at *
  rw [e1, e2, e3, e4, e5, e6, e7, e8, e9]
  obtain ⟨n, k1, k2, k3, k4, k5⟩ := g3
  refine ⟨n, k1, k2, by rw [m3 _ (by omega) (by omega)]; exact k3, fun l hl => ?_, k5.c rfl rfl rfl (m3 _ (by omega) (by omega)) (m3 _ (by omega) (by omega)) (m3 _ (by omega) (by omega)) (fun q hq => ⟨rfl, m4 _ (by omega) (by omega)⟩) (fun s hs => ⟨rfl, m3 _ (by omega) (by omega), rfl, m3 _ (by omega) (by omega), rfl, m4 _ (by omega) (by omega)⟩)⟩
  obtain ⟨a, g, v, u⟩ := k4 l hl
  refine ⟨a, g, v, ?_⟩
  rw [m3 _ (by omega) (by omega), m3 _ (by omega) (by omega), m3 _ (by omega) (by omega)]; exact u
theorem keep_no {n : Nat} {b : Bool} {I : HI} {J : HJ} {a1 : Int32} (a2 a3 a4 : Int32) {B : Bd} {nb : Nat} (h : IV (n + 1) B nb I J) (hn : a1 < 0 ∨ nI 2 ≤ a1) (hn2 : ∀ i, i < 2 → a1 ≠ nI i) : Op44 (Iv n) b I J a1 a2 a3 a4 := by
  refine ⟨0, I, J, ui I m_self f_Model_thrown 0, J, ?_, ?_, IV_th h (th_s I 0) Sm.rf⟩
  · unfold F_X11_keep
    by_cases c : a1 < 0
    · rw [if_pos c]
    · rw [if_neg c, if_neg]
      have c2 : (2 : Int32) ≤ a1 := hn.resolve_left c
      rw [i_le] at c2; rw [i_lt]; omega
  · unfold F_X12_keep
    refine (lb_e _ _).trans (cp0 ((in_r a1 0 1 (by omega) (by omega)).2 (fun ⟨h1, h2⟩ => ?_)))
    obtain ⟨v, e1, e2, _⟩ := i_of (x := a1) (by omega)
    exact hn2 v (by omega) e1

theorem keep_0 {n : Nat} {b : Bool} {I : HI} {J : HJ} (a2 a3 a4 : Int32) {B : Bd} {nb : Nat} (h : IV (n + 1) B nb I J) : Op44 (Iv n) b I J (nI 0) a2 a3 a4 := by
  have hB := h.1
  have h60 := hB.2.2.1
  have hX := h.2.1
  have hM := h.2.2.1
  have hN := h.2.2.2.2.1
  refine bothF (P := fun q => q.1 = 1 ∧ (q.2.1 x_kept_0 f_Kept_full = 1 ∧ q.2.1 x_kept_0 f_Kept_lamps = I x_board f_Board_lamps ∧ (∀ l, l < 64 → q.2.1 x_kept_0_from l = I x_board_from l ∧ q.2.1 x_kept_0_goal l = I x_board_goal l ∧ q.2.1 x_kept_0_volts l = I x_board_volts l) ∧ q.2.1 x_kept_0_notes f_Notes_high = I x_notes f_Notes_high ∧ q.2.1 x_kept_0_notes f_Notes_low = I x_notes f_Notes_low ∧ q.2.1 x_kept_0_notes f_Notes_seenSize = I x_notes f_Notes_seenSize ∧ (∀ i, i < 4 → q.2.2 x_kept_0_notes_pictures i = J x_notes_pictures i) ∧ (∀ s, s < 12 → q.2.1 x_kept_0_notes_seenHigh s = I x_notes_seenHigh s ∧ q.2.1 x_kept_0_notes_seenLow s = I x_notes_seenLow s ∧ q.2.2 x_kept_0_notes_seenLamps s = J x_notes_seenLamps s)) ∧ Sm wi_X2_take_63_1_25 I q.2.1 ∧ Sm wj_X2_take_63_1_25 J q.2.2) ?_ (fr_X11_keep (nI 0) I J) (fun I1 J1 => fr_X12_keep (nI 0) I1 J1) ?_
  · unfold F_X11_keep
    refine Ok.f (by decide) (Ok.t (by decide) (Ok.bxe (by omega) (by omega) (Ok.t (by rfl) ?_)))
    refine Ok.call ((X2_take0 I J).fo (fr_X2_take_63_1_25 I J)) (fun r I1 J1 _ hP => Ok.mk ⟨rfl, hP.1, hP.2.1, hP.2.2⟩)
  · intro r I1 J1 hP s1 s2
    obtain ⟨hr, ⟨p1, p2, p3, p4, p5, p6, p7, p8⟩, w1, w2⟩ := hP
    simp only at hr p1 p2 p3 p4 p5 p6 p7 p8 w1 w2
    refine (X12_keep (i := 0) (by omega) I1 J1).mono (fun q hq => ⟨by rw [hq.1, hr], fun t1 t2 => ?_⟩)
    obtain ⟨_, q1, q2, q3, q4, q5, q6, q7, q8, q9, q10, q11, q12⟩ := hq
    obtain ⟨kX, kM, kTx, _, kTo, kP, _, _, kTb, kF, kMo, kB⟩ := IV_k h s1 s2 t1 t2
    have hnote : CNote B q.2.1 q.2.2 := (hN.keep (Ag.of w1 (by decide)) (Ag.of w2 (by decide))).keep (Ag.of t1 (by decide)) (Ag.of t2 (by decide))
    have hM1 : MB B I1 := hM.keep (Ag.of s1 (by decide))
    have hN1 : CNote B I1 J1 := hN.keep (Ag.of w1 (by decide)) (Ag.of w2 (by decide))
    have hbd : I1 m_self f_Model_boards = nI nb := by rw [w1 _ _ rfl]; exact h.2.2.2.2.2.2.2.2.2.2.2.2.1
    have knew : KP0 B nb q.2.1 q.2.2 := by
      refine ⟨true, by rw [t1 _ _ rfl]; exact p1, fun _ => ⟨q1, by rw [q2]; exact hbd, bL B, h60, by rw [t1 _ _ rfl, p2]; exact hX.2.1, by rw [q4]; exact hM1.2.1, fun l hl => ?_, ?_⟩, fun hh => by cases hh⟩
      · obtain ⟨g1, g2, g3, g4, g5⟩ := hB.2.2.2.2.2.2.2.2.2 l hl
        obtain ⟨x1, x2, x3⟩ := hX.2.2.2.2.2.2.1 l hl
        obtain ⟨y1, y2, y3⟩ := hM1.2.2.2.2.2.2 l hl
        obtain ⟨z1, z2, z3⟩ := q3 l (by omega)
        obtain ⟨u1, u2, u3⟩ := p3 l (by omega)
        exact ⟨bA B l, bG B l, bV B l, g1, g2, g3, g4, g5, by rw [t1 _ _ rfl, u1, x1], by rw [z1, y1], by rw [t1 _ _ rfl, u2, x2], by rw [z2, y2], by rw [t1 _ _ rfl, u3, x3], by rw [z3, y3]⟩
      · refine NTC.c hN1 ?_ ?_ ?_ q5 q6 q7 (fun i hi => ⟨?_, q9 i hi⟩) (fun s hs => ?_)
        · rw [t1 _ _ rfl, p4]; exact (w1 _ _ rfl).symm
        · rw [t1 _ _ rfl, p5]; exact (w1 _ _ rfl).symm
        · rw [t1 _ _ rfl, p6]; exact (w1 _ _ rfl).symm
        · rw [t2 _ _ rfl, p7 i hi]; exact (w2 _ _ rfl).symm
        · obtain ⟨z1, z2, z3⟩ := q8 s hs
          obtain ⟨u1, u2, u3⟩ := p8 s hs
          exact ⟨by rw [t1 _ _ rfl, u1]; exact (w1 _ _ rfl).symm, z1, by rw [t1 _ _ rfl, u2]; exact (w1 _ _ rfl).symm, z2, by rw [t2 _ _ rfl, u3]; exact (w2 _ _ rfl).symm, z3⟩
    have kold : KP1 B nb q.2.1 q.2.2 := by
      have h0 : KP1 B nb I1 J1 := h.2.2.2.2.2.2.2.2.1.keep (Ag.of w1 (by decide)) (Ag.of w2 (by decide))
      have a : Ag [(x_kept_1, none), (x_kept_1_from, none), (x_kept_1_goal, none), (x_kept_1_volts, none), (x_kept_1_notes, none), (x_kept_1_notes_seenHigh, none), (x_kept_1_notes_seenLow, none)] I1 q.2.1 := Ag.of t1 (by decide)
      have bj : Ag [(x_kept_1_notes_pictures, none), (x_kept_1_notes_seenLamps, none)] J1 q.2.2 := Ag.of t2 (by decide)
      exact KP.oth h0 (a.c (fun _ => rfl)) (a.c (fun _ => rfl)) (a.c (fun _ => rfl)) (a.c (fun _ => rfl)) (a.c (fun _ => rfl)) (bj.c (fun _ => rfl)) (a.c (fun _ => rfl)) (a.c (fun _ => rfl)) (bj.c (fun _ => rfl)) (q10 1 (by decide)).1 (q10 1 (by decide)).2 (fun j hj1 hj2 => q11 j (by omega)) (fun j hj1 hj2 => q12 j (by omega))
    exact ⟨B, nb, hB, kX (by decide), kM (by decide), kTx (by decide), hnote, kTo (by decide), kP (by decide), knew, kold, kTb (by decide), kF (by decide), kMo (by decide), kB (by decide)⟩

theorem keep_1 {n : Nat} {b : Bool} {I : HI} {J : HJ} (a2 a3 a4 : Int32) {B : Bd} {nb : Nat} (h : IV (n + 1) B nb I J) : Op44 (Iv n) b I J (nI 1) a2 a3 a4 := by
  have hB := h.1
  have h60 := hB.2.2.1
  have hX := h.2.1
  have hM := h.2.2.1
  have hN := h.2.2.2.2.1
  refine bothF (P := fun q => q.1 = 1 ∧ (q.2.1 x_kept_1 f_Kept_full = 1 ∧ q.2.1 x_kept_1 f_Kept_lamps = I x_board f_Board_lamps ∧ (∀ l, l < 64 → q.2.1 x_kept_1_from l = I x_board_from l ∧ q.2.1 x_kept_1_goal l = I x_board_goal l ∧ q.2.1 x_kept_1_volts l = I x_board_volts l) ∧ q.2.1 x_kept_1_notes f_Notes_high = I x_notes f_Notes_high ∧ q.2.1 x_kept_1_notes f_Notes_low = I x_notes f_Notes_low ∧ q.2.1 x_kept_1_notes f_Notes_seenSize = I x_notes f_Notes_seenSize ∧ (∀ i, i < 4 → q.2.2 x_kept_1_notes_pictures i = J x_notes_pictures i) ∧ (∀ s, s < 12 → q.2.1 x_kept_1_notes_seenHigh s = I x_notes_seenHigh s ∧ q.2.1 x_kept_1_notes_seenLow s = I x_notes_seenLow s ∧ q.2.2 x_kept_1_notes_seenLamps s = J x_notes_seenLamps s)) ∧ Sm wi_X2_take_72_1_25 I q.2.1 ∧ Sm wj_X2_take_72_1_25 J q.2.2) ?_ (fr_X11_keep (nI 1) I J) (fun I1 J1 => fr_X12_keep (nI 1) I1 J1) ?_
  · unfold F_X11_keep
    refine Ok.f (by decide) (Ok.t (by decide) (Ok.bxe (by omega) (by omega) (Ok.f (by decide) ?_)))
    refine Ok.call ((X2_take1 I J).fo (fr_X2_take_72_1_25 I J)) (fun r I1 J1 _ hP => Ok.mk ⟨rfl, hP.1, hP.2.1, hP.2.2⟩)
  · intro r I1 J1 hP s1 s2
    obtain ⟨hr, ⟨p1, p2, p3, p4, p5, p6, p7, p8⟩, w1, w2⟩ := hP
    simp only at hr p1 p2 p3 p4 p5 p6 p7 p8 w1 w2
    refine (X12_keep (i := 1) (by omega) I1 J1).mono (fun q hq => ⟨by rw [hq.1, hr], fun t1 t2 => ?_⟩)
    obtain ⟨_, q1, q2, q3, q4, q5, q6, q7, q8, q9, q10, q11, q12⟩ := hq
    obtain ⟨kX, kM, kTx, _, kTo, kP, _, _, kTb, kF, kMo, kB⟩ := IV_k h s1 s2 t1 t2
    have hnote : CNote B q.2.1 q.2.2 := (hN.keep (Ag.of w1 (by decide)) (Ag.of w2 (by decide))).keep (Ag.of t1 (by decide)) (Ag.of t2 (by decide))
    have hM1 : MB B I1 := hM.keep (Ag.of s1 (by decide))
    have hN1 : CNote B I1 J1 := hN.keep (Ag.of w1 (by decide)) (Ag.of w2 (by decide))
    have hbd : I1 m_self f_Model_boards = nI nb := by rw [w1 _ _ rfl]; exact h.2.2.2.2.2.2.2.2.2.2.2.2.1
    have knew : KP1 B nb q.2.1 q.2.2 := by
      refine ⟨true, by rw [t1 _ _ rfl]; exact p1, fun _ => ⟨q1, by rw [q2]; exact hbd, bL B, h60, by rw [t1 _ _ rfl, p2]; exact hX.2.1, by rw [q4]; exact hM1.2.1, fun l hl => ?_, ?_⟩, fun hh => by cases hh⟩
      · obtain ⟨g1, g2, g3, g4, g5⟩ := hB.2.2.2.2.2.2.2.2.2 l hl
        obtain ⟨x1, x2, x3⟩ := hX.2.2.2.2.2.2.1 l hl
        obtain ⟨y1, y2, y3⟩ := hM1.2.2.2.2.2.2 l hl
        obtain ⟨z1, z2, z3⟩ := q3 l (by omega)
        obtain ⟨u1, u2, u3⟩ := p3 l (by omega)
        exact ⟨bA B l, bG B l, bV B l, g1, g2, g3, g4, g5, by rw [t1 _ _ rfl, u1, x1], by rw [z1, y1], by rw [t1 _ _ rfl, u2, x2], by rw [z2, y2], by rw [t1 _ _ rfl, u3, x3], by rw [z3, y3]⟩
      · refine NTC.c hN1 ?_ ?_ ?_ q5 q6 q7 (fun i hi => ⟨?_, q9 i hi⟩) (fun s hs => ?_)
        · rw [t1 _ _ rfl, p4]; exact (w1 _ _ rfl).symm
        · rw [t1 _ _ rfl, p5]; exact (w1 _ _ rfl).symm
        · rw [t1 _ _ rfl, p6]; exact (w1 _ _ rfl).symm
        · rw [t2 _ _ rfl, p7 i hi]; exact (w2 _ _ rfl).symm
        · obtain ⟨z1, z2, z3⟩ := q8 s hs
          obtain ⟨u1, u2, u3⟩ := p8 s hs
          exact ⟨by rw [t1 _ _ rfl, u1]; exact (w1 _ _ rfl).symm, z1, by rw [t1 _ _ rfl, u2]; exact (w1 _ _ rfl).symm, z2, by rw [t2 _ _ rfl, u3]; exact (w2 _ _ rfl).symm, z3⟩
    have kold : KP0 B nb q.2.1 q.2.2 := by
      have h0 : KP0 B nb I1 J1 := h.2.2.2.2.2.2.2.1.keep (Ag.of w1 (by decide)) (Ag.of w2 (by decide))
      have a : Ag [(x_kept_0, none), (x_kept_0_from, none), (x_kept_0_goal, none), (x_kept_0_volts, none), (x_kept_0_notes, none), (x_kept_0_notes_seenHigh, none), (x_kept_0_notes_seenLow, none)] I1 q.2.1 := Ag.of t1 (by decide)
      have bj : Ag [(x_kept_0_notes_pictures, none), (x_kept_0_notes_seenLamps, none)] J1 q.2.2 := Ag.of t2 (by decide)
      exact KP.oth h0 (a.c (fun _ => rfl)) (a.c (fun _ => rfl)) (a.c (fun _ => rfl)) (a.c (fun _ => rfl)) (a.c (fun _ => rfl)) (bj.c (fun _ => rfl)) (a.c (fun _ => rfl)) (a.c (fun _ => rfl)) (bj.c (fun _ => rfl)) (q10 0 (by decide)).1 (q10 0 (by decide)).2 (fun j hj1 hj2 => q11 j (by omega)) (fun j hj1 hj2 => q12 j (by omega))
    exact ⟨B, nb, hB, kX (by decide), kM (by decide), kTx (by decide), hnote, kTo (by decide), kP (by decide), kold, knew, kTb (by decide), kF (by decide), kMo (by decide), kB (by decide)⟩

theorem OP44 (n : Nat) (b : Bool) (I : HI) (J : HJ) (a1 a2 a3 a4 : Int32) (h : Iv (n + 1) b I J) : Op44 (Iv n) b I J a1 a2 a3 a4 := by
  obtain ⟨B, nb, h⟩ := h
  rcases i_case a1 2 (by omega) with ⟨i, hi, rfl⟩ | ⟨hn, hn2⟩
  · rcases (show i = 0 ∨ i = 1 by omega) with rfl | rfl
    · exact keep_0 a2 a3 a4 h
    · exact keep_1 a2 a3 a4 h
  · exact keep_no a2 a3 a4 h hn hn2

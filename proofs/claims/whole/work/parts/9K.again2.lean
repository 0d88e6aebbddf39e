/-! LAYER 2: again, the call -/
theorem again_no {n : Nat} {b : Bool} {I : HI} {J : HJ} {a1 : Int32} (a2 a3 a4 : Int32) {B : Bd} {nb : Nat} (h : IV (n + 1) B nb I J) (hn : a1 < 0 ∨ nI 2 ≤ a1) (hn2 : ∀ i, i < 2 → a1 ≠ nI i) : Op45 (Iv n) b I J a1 a2 a3 a4 := by
  refine ⟨0, I, J, ui I m_self f_Model_thrown 0, J, ?_, ?_, IV_th h (th_s I 0) Sm.rf⟩
  · unfold F_X11_again
    by_cases c : a1 < 0
    · rw [if_pos c]
    · rw [if_neg c, if_pos (show (2 : Int32) ≤ a1 from hn.resolve_left c)]
  · unfold F_X12_again
    refine (lb_e _ _).trans (cp0 ((in_r a1 0 1 (by omega) (by omega)).2 (fun ⟨h1, h2⟩ => ?_)))
    obtain ⟨v, e1, e2, _⟩ := i_of (x := a1) (by omega)
    exact hn2 v (by omega) e1
theorem X12_again_no {i nb : Nat} (hi : i < 2) (hnb : nb ≤ 6500) {I : HI} {J : HJ} (hb : I m_self f_Model_boards = nI nb) (h : I m_isKept i = nI 0 ∨ (I m_isKept i = nI 1 ∧ ∃ kb, kb < nb ∧ I m_keptBoards i = nI kb)) : F_X12_again (nI i) I J = some (0, ui I m_self f_Model_thrown 0, J) := by
  unfold F_X12_again
  have r0 : F_X12_in (Int32.toInt64 (nI i)) (0 : Int64) (1 : Int64) = some (nI 1) := (in_r (nI i) 0 1 (by omega) (by omega)).1 (by rw [n_int (by omega)]; omega)
  obtain ⟨I1, hI1⟩ : ∃ I1, I1 = ui I m_self f_Model_thrown 0 := ⟨_, rfl⟩
  have s1 : Sm [(m_self, some f_Model_thrown)] I I1 := by rw [hI1]; exact th_s I 0
  refine (lb_e _ _).trans ((cp1 r0).trans ?_)
  rw [← hI1, n_bx (by omega) (by omega), n_cl (by omega), s1 m_isKept _ rfl]
  rcases h with h | ⟨h, kb, h2, h3⟩
  · rw [h]; exact if_pos rfl
  · rw [h, if_neg (by decide), n_bx (by omega) (by omega), s1 m_keptBoards _ rfl, s1 m_self _ rfl, hb, h3, if_neg (by rw [n_eq (by omega) (by omega)]; omega)]

theorem again_0 {n : Nat} {b : Bool} {I : HI} {J : HJ} (a2 a3 a4 : Int32) {B : Bd} {nb : Nat} (h : IV (n + 1) B nb I J) : Op45 (Iv n) b I J (nI 0) a2 a3 a4 := by
  have hB := h.1
  have hW := hB.2.1
  have hX := h.2.1
  have hM := h.2.2.1
  have hbd : I m_self f_Model_boards = nI nb := h.2.2.2.2.2.2.2.2.2.2.2.2.1
  have hnb : nb ≤ 6500 := by have := h.2.2.2.2.2.2.2.2.2.2.2.2.2; omega
  obtain ⟨p, k1, k2, k3⟩ := h.2.2.2.2.2.2.2.1
  cases p with
  | false =>
    refine ⟨0, I, J, ui I m_self f_Model_thrown 0, J, ?_, X12_again_no (by omega) hnb hbd (k3 rfl), IV_th h (th_s I 0) Sm.rf⟩
    unfold F_X11_again
    rw [if_neg (by decide), if_neg (by decide), n_bx (by omega) (by omega), if_pos (show Int32.toNatClampNeg (nI 0) = 0 from rfl), k1]
    exact if_pos rfl
  | true =>
    obtain ⟨g1, g2, m, m1, m2, m3, m4, m5⟩ := k2 rfl
    obtain ⟨B', hB'⟩ : ∃ B', B' = agB B m (I x_kept_0_from) (I x_kept_0_goal) (I x_kept_0_volts) := ⟨_, rfl⟩
    obtain ⟨hok, hen⟩ := agB_ok hB m1 (fa := I x_kept_0_from) (fg := I x_kept_0_goal) (fv := I x_kept_0_volts) (fun l hl => by
      obtain ⟨a, g, v, u1, u2, u3, u4, u5, u6, _, u8, _, u10, _⟩ := m4 l hl
      exact ⟨a, g, v, u1, u2, u3, u4, u5, u6, u8, u10⟩)
    rw [← hB'] at hok hen
    have eL : bL B' = m := by rw [hB']; rfl
    have eW : bW B' = bW B := by rw [hB']; rfl
    have eS : bS B' = bS B := by rw [hB']; rfl
    have eD : bD B' = bD B := by rw [hB']; rfl
    have eF : bF B' = bF B := by rw [hB']; rfl
    have eO : ∀ w, bO B' w = bO B w := by rw [hB']; intro w; rfl
    have hb10 : ∀ l, l < bL B' → bA B' l < 10 ∧ bG B' l < 10 := fun l hl => by
      obtain ⟨u1, u2, _⟩ := hok.2.2.2.2.2.2.2.2.2 l hl
      have := hok.2.1
      exact ⟨by omega, by omega⟩
    refine bothF (P := fun q => q.1 = 1 ∧ XB B' q.2.1 q.2.2 ∧ q.2.1 x_table f_Table_fresh = 0 ∧ (q.2.1 x_notes f_Notes_high = I x_kept_0_notes f_Notes_high ∧ q.2.1 x_notes f_Notes_low = I x_kept_0_notes f_Notes_low ∧ q.2.1 x_notes f_Notes_seenSize = I x_kept_0_notes f_Notes_seenSize ∧ (∀ i, i < 4 → q.2.2 x_notes_pictures i = J x_kept_0_notes_pictures i) ∧ (∀ s, s < 12 → q.2.1 x_notes_seenHigh s = I x_kept_0_notes_seenHigh s ∧ q.2.1 x_notes_seenLow s = I x_kept_0_notes_seenLow s ∧ q.2.2 x_notes_seenLamps s = J x_kept_0_notes_seenLamps s))) ?_ (fr_X11_again (nI 0) I J) (fun I1 J1 => fr_X12_again (nI 0) I1 J1) ?_
    · unfold F_X11_again
      refine Ok.f (by decide) (Ok.f (by decide) (Ok.bxe (by omega) (by omega) (Ok.t (by rfl) (Ok.f (by rw [k1]; decide) (Ok.bxe (by omega) (by omega) (Ok.t (by rfl) ?_))))))
      refine Ok.call (X2_give0 (B := B') hok.2.2.1 hb10 I J (by rw [m2, eL]) (fun l hl => ⟨(hen l (by omega)).1, (hen l (by omega)).2.1⟩)) (fun r I1 J1 _ hP => ?_)
      obtain ⟨p1, p2, p3, p4, p5, p6, p7, p8, p9, p10⟩ := hP
      simp only at p1 p2 p3 p4 p5 p6 p7 p8 p9 p10
      refine Ok.lbv (Ok.mk ⟨rfl, ?_, by dsimp only; rw [ui_r], ?_, ?_, ?_, p7, fun s hs => ?_⟩) <;> dsimp only
      · refine ⟨?_, ?_, ?_, ?_, ?_, fun w hw => ?_, fun l hl => ?_, p3⟩
        · rw [ui_c (by decide), p9 _ (by decide), eW]; exact hX.1
        · rw [ui_c (by decide), p1, m2, eL]
        · rw [ui_c (by decide), p9 _ (by decide), eS]; exact hX.2.2.1
        · rw [ui_c (by decide), p9 _ (by decide), eD]; exact hX.2.2.2.1
        · rw [ui_c (by decide), p9 _ (by decide), eF]; exact hX.2.2.2.2.1
        · rw [ui_c (by decide), p10, eO]; exact hX.2.2.2.2.2.1 w hw
        · have := hok.2.2.1
          obtain ⟨v1, v2, v3⟩ := p2 l (by omega)
          rw [ui_c (by decide), ui_c (by decide), ui_c (by decide), v1, v2, v3]
          exact hen l (by omega)
      · rw [ui_c (by decide)]; exact p4
      · rw [ui_c (by decide)]; exact p5
      · rw [ui_c (by decide)]; exact p6
      · rw [ui_c (by decide), ui_c (by decide)]; exact p8 s hs
    · intro r I1 J1 hP s1 s2
      obtain ⟨hr, hX1, hfr, n1, n2, n3, n4, n5⟩ := hP
      simp only at hr hX1 hfr n1 n2 n3 n4 n5
      have hM1 : MB B I1 := hM.keep (Ag.of s1 (by decide))
      refine (X12_again (i := 0) (nb := nb) (by omega) I1 J1 (by rw [s1 _ _ rfl]; exact g1) (by rw [s1 _ _ rfl]; exact g2) (by rw [s1 _ _ rfl]; exact hbd)).mono (fun q hq => ⟨by rw [hq.1, hr], fun t1 t2 => ?_⟩)
      obtain ⟨_, q1, q2, q3, q4, q5, q6, q7, q8, q9, q10⟩ := hq
      obtain ⟨_, _, kTx, _, kTo, kP, k0', k1', _, kF, kMo, kB⟩ := IV_k h s1 s2 t1 t2
      have hMB : MB B' q.2.1 := by
        refine ⟨by rw [q8, eW]; exact hM1.1, by rw [q2, s1 _ _ rfl, eL]; exact m3, by rw [q9, eS]; exact hM1.2.2.1, by rw [q9, eD]; exact hM1.2.2.2.1, by rw [q9, eF]; exact hM1.2.2.2.2.1, fun w hw => by rw [q10, eO]; exact hM1.2.2.2.2.2.1 w hw, fun l hl => ?_⟩
        have := hok.2.2.1
        obtain ⟨v1, v2, v3⟩ := q1 l (by omega)
        obtain ⟨a, g, v, _, _, _, _, _, u6, u7, u8, u9, u10, u11⟩ := m4 l (by omega)
        obtain ⟨e1, e2, e3⟩ := hen l (by omega)
        rw [v1, v2, v3, s1 _ _ rfl, s1 _ _ rfl, s1 _ _ rfl, u7, u9, u11, ← e1, ← e2, ← e3]
        exact ⟨u6.symm, u8.symm, u10.symm⟩
      have hnote : CNote B' q.2.1 q.2.2 := by
        unfold CNote
        rw [eW, eL]
        refine NTC.c m5 ?_ ?_ ?_ ?_ ?_ ?_ (fun i hi => ⟨?_, ?_⟩) (fun s hs => ?_)
        · rw [t1 _ _ rfl]; exact n1
        · rw [t1 _ _ rfl]; exact n2
        · rw [t1 _ _ rfl]; exact n3
        · rw [q3]; exact s1 _ _ rfl
        · rw [q4]; exact s1 _ _ rfl
        · rw [q5]; exact s1 _ _ rfl
        · rw [t2 _ _ rfl]; exact n4 i hi
        · rw [q7 i hi]; exact s2 _ _ rfl
        · obtain ⟨v1, v2, v3⟩ := q6 s hs
          obtain ⟨u1, u2, u3⟩ := n5 s hs
          exact ⟨by rw [t1 _ _ rfl]; exact u1, by rw [v1]; exact s1 _ _ rfl, by rw [t1 _ _ rfl]; exact u2, by rw [v2]; exact s1 _ _ rfl, by rw [t2 _ _ rfl]; exact u3, by rw [v3]; exact s2 _ _ rfl⟩
      exact ⟨B', nb, hok, hX1.keep (Ag.of t1 (by decide)) (Ag.of t2 (by decide)), hMB, kTx (by decide), hnote, kTo (by decide), (kP (by decide)).cw eW, KP.cw (k0' (by decide)) eW, KP.cw (k1' (by decide)) eW, tab_n (by rw [t1 _ _ rfl]; exact hfr), kF (by decide), kMo (by decide), kB (by decide)⟩

theorem again_1 {n : Nat} {b : Bool} {I : HI} {J : HJ} (a2 a3 a4 : Int32) {B : Bd} {nb : Nat} (h : IV (n + 1) B nb I J) : Op45 (Iv n) b I J (nI 1) a2 a3 a4 := by
  have hB := h.1
  have hW := hB.2.1
  have hX := h.2.1
  have hM := h.2.2.1
  have hbd : I m_self f_Model_boards = nI nb := h.2.2.2.2.2.2.2.2.2.2.2.2.1
  have hnb : nb ≤ 6500 := by have := h.2.2.2.2.2.2.2.2.2.2.2.2.2; omega
  obtain ⟨p, k1, k2, k3⟩ := h.2.2.2.2.2.2.2.2.1
  cases p with
  | false =>
    refine ⟨0, I, J, ui I m_self f_Model_thrown 0, J, ?_, X12_again_no (by omega) hnb hbd (k3 rfl), IV_th h (th_s I 0) Sm.rf⟩
    unfold F_X11_again
    rw [if_neg (by decide), if_neg (by decide), n_bx (by omega) (by omega), if_neg (show ¬ Int32.toNatClampNeg (nI 1) = 0 by decide), k1]
    exact if_pos rfl
  | true =>
    obtain ⟨g1, g2, m, m1, m2, m3, m4, m5⟩ := k2 rfl
    obtain ⟨B', hB'⟩ : ∃ B', B' = agB B m (I x_kept_1_from) (I x_kept_1_goal) (I x_kept_1_volts) := ⟨_, rfl⟩
    obtain ⟨hok, hen⟩ := agB_ok hB m1 (fa := I x_kept_1_from) (fg := I x_kept_1_goal) (fv := I x_kept_1_volts) (fun l hl => by
      obtain ⟨a, g, v, u1, u2, u3, u4, u5, u6, _, u8, _, u10, _⟩ := m4 l hl
      exact ⟨a, g, v, u1, u2, u3, u4, u5, u6, u8, u10⟩)
    rw [← hB'] at hok hen
    have eL : bL B' = m := by rw [hB']; rfl
    have eW : bW B' = bW B := by rw [hB']; rfl
    have eS : bS B' = bS B := by rw [hB']; rfl
    have eD : bD B' = bD B := by rw [hB']; rfl
    have eF : bF B' = bF B := by rw [hB']; rfl
    have eO : ∀ w, bO B' w = bO B w := by rw [hB']; intro w; rfl
    have hb10 : ∀ l, l < bL B' → bA B' l < 10 ∧ bG B' l < 10 := fun l hl => by
      obtain ⟨u1, u2, _⟩ := hok.2.2.2.2.2.2.2.2.2 l hl
      have := hok.2.1
      exact ⟨by omega, by omega⟩
    refine bothF (P := fun q => q.1 = 1 ∧ XB B' q.2.1 q.2.2 ∧ q.2.1 x_table f_Table_fresh = 0 ∧ (q.2.1 x_notes f_Notes_high = I x_kept_1_notes f_Notes_high ∧ q.2.1 x_notes f_Notes_low = I x_kept_1_notes f_Notes_low ∧ q.2.1 x_notes f_Notes_seenSize = I x_kept_1_notes f_Notes_seenSize ∧ (∀ i, i < 4 → q.2.2 x_notes_pictures i = J x_kept_1_notes_pictures i) ∧ (∀ s, s < 12 → q.2.1 x_notes_seenHigh s = I x_kept_1_notes_seenHigh s ∧ q.2.1 x_notes_seenLow s = I x_kept_1_notes_seenLow s ∧ q.2.2 x_notes_seenLamps s = J x_kept_1_notes_seenLamps s))) ?_ (fr_X11_again (nI 1) I J) (fun I1 J1 => fr_X12_again (nI 1) I1 J1) ?_
    · unfold F_X11_again
      refine Ok.f (by decide) (Ok.f (by decide) (Ok.bxe (by omega) (by omega) (Ok.f (by decide) (Ok.f (by rw [k1]; decide) (Ok.bxe (by omega) (by omega) (Ok.f (by decide) ?_))))))
      refine Ok.call (X2_give1 (B := B') hok.2.2.1 hb10 I J (by rw [m2, eL]) (fun l hl => ⟨(hen l (by omega)).1, (hen l (by omega)).2.1⟩)) (fun r I1 J1 _ hP => ?_)
      obtain ⟨p1, p2, p3, p4, p5, p6, p7, p8, p9, p10⟩ := hP
      simp only at p1 p2 p3 p4 p5 p6 p7 p8 p9 p10
      refine Ok.lbv (Ok.mk ⟨rfl, ?_, by dsimp only; rw [ui_r], ?_, ?_, ?_, p7, fun s hs => ?_⟩) <;> dsimp only
      · refine ⟨?_, ?_, ?_, ?_, ?_, fun w hw => ?_, fun l hl => ?_, p3⟩
        · rw [ui_c (by decide), p9 _ (by decide), eW]; exact hX.1
        · rw [ui_c (by decide), p1, m2, eL]
        · rw [ui_c (by decide), p9 _ (by decide), eS]; exact hX.2.2.1
        · rw [ui_c (by decide), p9 _ (by decide), eD]; exact hX.2.2.2.1
        · rw [ui_c (by decide), p9 _ (by decide), eF]; exact hX.2.2.2.2.1
        · rw [ui_c (by decide), p10, eO]; exact hX.2.2.2.2.2.1 w hw
        · have := hok.2.2.1
          obtain ⟨v1, v2, v3⟩ := p2 l (by omega)
          rw [ui_c (by decide), ui_c (by decide), ui_c (by decide), v1, v2, v3]
          exact hen l (by omega)
      · rw [ui_c (by decide)]; exact p4
      · rw [ui_c (by decide)]; exact p5
      · rw [ui_c (by decide)]; exact p6
      · rw [ui_c (by decide), ui_c (by decide)]; exact p8 s hs
    · intro r I1 J1 hP s1 s2
      obtain ⟨hr, hX1, hfr, n1, n2, n3, n4, n5⟩ := hP
      simp only at hr hX1 hfr n1 n2 n3 n4 n5
      have hM1 : MB B I1 := hM.keep (Ag.of s1 (by decide))
      refine (X12_again (i := 1) (nb := nb) (by omega) I1 J1 (by rw [s1 _ _ rfl]; exact g1) (by rw [s1 _ _ rfl]; exact g2) (by rw [s1 _ _ rfl]; exact hbd)).mono (fun q hq => ⟨by rw [hq.1, hr], fun t1 t2 => ?_⟩)
      obtain ⟨_, q1, q2, q3, q4, q5, q6, q7, q8, q9, q10⟩ := hq
      obtain ⟨_, _, kTx, _, kTo, kP, k0', k1', _, kF, kMo, kB⟩ := IV_k h s1 s2 t1 t2
      have hMB : MB B' q.2.1 := by
        refine ⟨by rw [q8, eW]; exact hM1.1, by rw [q2, s1 _ _ rfl, eL]; exact m3, by rw [q9, eS]; exact hM1.2.2.1, by rw [q9, eD]; exact hM1.2.2.2.1, by rw [q9, eF]; exact hM1.2.2.2.2.1, fun w hw => by rw [q10, eO]; exact hM1.2.2.2.2.2.1 w hw, fun l hl => ?_⟩
        have := hok.2.2.1
        obtain ⟨v1, v2, v3⟩ := q1 l (by omega)
        obtain ⟨a, g, v, _, _, _, _, _, u6, u7, u8, u9, u10, u11⟩ := m4 l (by omega)
        obtain ⟨e1, e2, e3⟩ := hen l (by omega)
        rw [v1, v2, v3, s1 _ _ rfl, s1 _ _ rfl, s1 _ _ rfl, u7, u9, u11, ← e1, ← e2, ← e3]
        exact ⟨u6.symm, u8.symm, u10.symm⟩
      have hnote : CNote B' q.2.1 q.2.2 := by
        unfold CNote
        rw [eW, eL]
        refine NTC.c m5 ?_ ?_ ?_ ?_ ?_ ?_ (fun i hi => ⟨?_, ?_⟩) (fun s hs => ?_)
        · rw [t1 _ _ rfl]; exact n1
        · rw [t1 _ _ rfl]; exact n2
        · rw [t1 _ _ rfl]; exact n3
        · rw [q3]; exact s1 _ _ rfl
        · rw [q4]; exact s1 _ _ rfl
        · rw [q5]; exact s1 _ _ rfl
        · rw [t2 _ _ rfl]; exact n4 i hi
        · rw [q7 i hi]; exact s2 _ _ rfl
        · obtain ⟨v1, v2, v3⟩ := q6 s hs
          obtain ⟨u1, u2, u3⟩ := n5 s hs
          exact ⟨by rw [t1 _ _ rfl]; exact u1, by rw [v1]; exact s1 _ _ rfl, by rw [t1 _ _ rfl]; exact u2, by rw [v2]; exact s1 _ _ rfl, by rw [t2 _ _ rfl]; exact u3, by rw [v3]; exact s2 _ _ rfl⟩
      exact ⟨B', nb, hok, hX1.keep (Ag.of t1 (by decide)) (Ag.of t2 (by decide)), hMB, kTx (by decide), hnote, kTo (by decide), (kP (by decide)).cw eW, KP.cw (k0' (by decide)) eW, KP.cw (k1' (by decide)) eW, tab_n (by rw [t1 _ _ rfl]; exact hfr), kF (by decide), kMo (by decide), kB (by decide)⟩

theorem OP45 (n : Nat) (b : Bool) (I : HI) (J : HJ) (a1 a2 a3 a4 : Int32) (h : Iv (n + 1) b I J) : Op45 (Iv n) b I J a1 a2 a3 a4 := by
  obtain ⟨B, nb, h⟩ := h
  rcases i_case a1 2 (by omega) with ⟨i, hi, rfl⟩ | ⟨hn, hn2⟩
  · rcases (show i = 0 ∨ i = 1 by omega) with rfl | rfl
    · exact again_0 a2 a3 a4 h
    · exact again_1 a2 a3 a4 h
  · exact again_no a2 a3 a4 h hn hn2

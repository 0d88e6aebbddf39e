/-! LAYER 2: board by the reference, the call -/
theorem rdT_ch {cd : Nat → Nat} {sz wd lm : Nat} {ls : List Ln} (hwd : 2 ≤ wd ∧ wd ≤ 10) (hlm : lm ≤ 60) (e1 : rdT cd sz wd lm = Sum.inr ls) : chL wd lm ls ∧ ls.length ≤ 75 := by
  unfold rdT at e1
  by_cases c0 : sz = 0
  · rw [if_pos c0] at e1; injection e1 with e1; rw [← e1]; exact ⟨trivial, by simp⟩
  · rw [if_neg c0] at e1
    cases hr : rdS cd (min sz 76) 80 0 wd lm [] with
    | inl e => rw [hr] at e1; cases e1
    | inr ls' =>
      rw [hr] at e1
      simp only at e1
      by_cases c : sz ≤ 76
      · rw [if_pos c] at e1
        injection e1 with e1
        obtain ⟨R, r1, r2, r3⟩ := rdS_ch 80 0 _ _ [] ls' hwd hlm (by omega) (by simp) hr
        rw [List.nil_append] at r1
        rw [← e1, r1]
        rw [r1] at r3
        exact ⟨r2, by omega⟩
      · rw [if_neg c] at e1; cases e1
def wfM : Pl := (m_self, some f_Model_thrown) :: (m_self, some f_Model_size) :: (m_self, some f_Model_typed) :: mlW
def wbM : Pl := bmW ++ wfM
theorem X12_board {B : Bd} (hB : OkB B) {sz nb : Nat} {cd : Nat → Nat} (hsz : sz ≤ 80) (I : HI) (J : HJ) (hM : MB B I) (h1 : I m_self f_Model_typed = nI sz) (hcd : ∀ k, cd k < 256) (h2 : ∀ k, k < sz → (cd k < 128 → I m_text k = nI (cd k)) ∧ (128 ≤ cd k → (I m_text k).toInt < 0)) (hb : I m_self f_Model_boards = nI nb) : Ok (F_X12_board I J) (fun q => q.2.1 m_self f_Model_typed = 0 ∧ ((∃ e, rdT cd sz (bW B) (bL B) = Sum.inl e ∧ q.1 = (-1) - nI e ∧ Sm wfM I q.2.1 ∧ q.2.2 = J) ∨ (∃ ls, rdT cd sz (bW B) (bL B) = Sum.inr ls ∧ q.1 = nI ls.length ∧ MB (ls.foldl apL B) q.2.1 ∧ q.2.1 m_self f_Model_boards = nI (nb + cwL ls) ∧ (cwL ls = 0 → Sm wbM I q.2.1 ∧ q.2.2 = J) ∧ (0 < cwL ls → clrM' q.2.1 q.2.2)))) := by
  have hwd : 2 ≤ bW B ∧ bW B ≤ 10 := ⟨hB.1, hB.2.1⟩
  have h60 := hB.2.2.1
  unfold F_X12_board
  refine Ok.lbv (Ok.lbv ?_)
  rw [ui_j (show f_Model_typed ≠ f_Model_thrown by decide), h1]
  refine Ok.lbv (Ok.lbv (Ok.lbv ?_))
  obtain ⟨I23, hI23⟩ : ∃ I23, I23 = ui (ui (ui (ui (ui I m_self f_Model_thrown 0) m_self f_Model_size (nI sz)) m_self f_Model_typed 0) m_self f_Model_at 0) m_self f_Model_wrong (-1) := ⟨_, rfl⟩
  rw [← hI23]
  have s23 : Sm wfM I I23 := by rw [hI23]; exact Sm.mi rfl (Sm.mi rfl (Sm.mi rfl (Sm.mi rfl (Sm.mi rfl Sm.rf))))
  have z23 : I23 m_self f_Model_size = nI sz := by rw [hI23, ui_j (by decide), ui_j (by decide), ui_j (by decide), ui_r]
  have y23 : I23 m_self f_Model_typed = 0 := by rw [hI23, ui_j (by decide), ui_j (by decide), ui_r]
  have a23 : I23 m_self f_Model_at = nI 0 := by rw [hI23, ui_j (by decide), ui_r]; rfl
  have w23 : I23 m_self f_Model_wrong = -1 := by rw [hI23, ui_r]
  have t23 : tcM cd sz I23 := ⟨hsz, z23, hcd, fun k hk => by rw [s23 _ _ rfl]; exact h2 k hk⟩
  have m23 : MB B I23 := hM.keep (Ag.of s23 (by decide))
  refine Ok.lbv (Ok.lbv (Ok.lbv ?_))
  rw [m23.1, m23.2.1, z23]
  have take : ∀ (ls : List Ln) (I' : HI), rdT cd sz (bW B) (bL B) = Sum.inr ls → Sm mlW I23 I' → lnM ls I' → Ok (F_X12_board_L361 (nI ls.length) bgf (0 : Int32) I' J) (fun q => q.2.1 m_self f_Model_typed = 0 ∧ ((∃ e, rdT cd sz (bW B) (bL B) = Sum.inl e ∧ q.1 = (-1) - nI e ∧ Sm wfM I q.2.1 ∧ q.2.2 = J) ∨ (∃ ls, rdT cd sz (bW B) (bL B) = Sum.inr ls ∧ q.1 = nI ls.length ∧ MB (ls.foldl apL B) q.2.1 ∧ q.2.1 m_self f_Model_boards = nI (nb + cwL ls) ∧ (cwL ls = 0 → Sm wbM I q.2.1 ∧ q.2.2 = J) ∧ (0 < cwL ls → clrM' q.2.1 q.2.2)))) := by
    intro ls I' e1 s1 hn
    have hch := rdT_ch hwd h60 e1
    refine X12_board_361 hch.2 I' J (nb := nb) B (fun I3 J3 g1 g2 g3 g4 g5 => ?_) ls [] bgf B I' J rfl (by unfold bgf; have := hch.2; omega) rfl hB hch.1 (m23.keep (Ag.of s1 (by decide))) hn (by rw [s1 _ _ rfl, s23 _ _ rfl]; exact hb) ⟨fun _ => ⟨Sm.rf, rfl⟩, fun h => absurd h (by simp [cwL])⟩ Sm.rf Sm.rf
    exact ⟨by dsimp only; rw [g4 _ _ rfl, s1 _ _ rfl]; exact y23, Or.inr ⟨ls, e1, rfl, g1, g2, fun h => ⟨Sm.tr (by decide) (Sm.tr (by decide) (Sm.tr (by decide) Sm.rf s23) s1) (g3.1 h).1, (g3.1 h).2⟩, g3.2⟩⟩
  have bad : ∀ (e : Nat) (I' : HI), e ≤ 80 → rdT cd sz (bW B) (bL B) = Sum.inl e → Sm mlW I23 I' → I' m_self f_Model_wrong = nI e → ∀ y, Ok (if (I' m_self f_Model_wrong) = (-1 : Int32) then F_X12_board_L361 y bgf (0 : Int32) I' J else some (((-1 : Int32) - (I' m_self f_Model_wrong)), I', J)) (fun q => q.2.1 m_self f_Model_typed = 0 ∧ ((∃ e, rdT cd sz (bW B) (bL B) = Sum.inl e ∧ q.1 = (-1) - nI e ∧ Sm wfM I q.2.1 ∧ q.2.2 = J) ∨ (∃ ls, rdT cd sz (bW B) (bL B) = Sum.inr ls ∧ q.1 = nI ls.length ∧ MB (ls.foldl apL B) q.2.1 ∧ q.2.1 m_self f_Model_boards = nI (nb + cwL ls) ∧ (cwL ls = 0 → Sm wbM I q.2.1 ∧ q.2.2 = J) ∧ (0 < cwL ls → clrM' q.2.1 q.2.2)))) := by
    intro e I' he e1 s1 hw y
    rw [hw]
    exact Ok.f (n_ne1l (by omega)) (Ok.mk ⟨by dsimp only; rw [s1 _ _ rfl]; exact y23, Or.inl ⟨e, e1, rfl, Sm.tr (by decide) s23 s1, rfl⟩⟩)
  by_cases c0 : sz = 0
  · refine Ok.t (show nI sz ≤ nI 0 by rw [n_le] <;> omega) ?_
    show Ok (F_X12_board_L54 _ (999999 + 1) 0 _ _ 0 _ J) _
    rw [F_X12_board_L54]
    refine Ok.t rfl (Ok.lbv ?_)
    rw [z23, a23]
    refine Ok.t (by rw [n_le] <;> omega) (Ok.t w23 ?_)
    exact take [] I23 (by unfold rdT; rw [if_pos c0]) Sm.rf (fun k hk => by cases hk)
  · refine Ok.f (show ¬ nI sz ≤ nI 0 by rw [n_le] <;> omega) ?_
    refine X12_board_54 J I23 t23 (rdS cd (min sz 76) 80 0 (bW B) (bL B) []) (fun n I' s1 hen => ?_) 80 bgf 0 (bW B) (bL B) [] I23 (by omega) (by unfold bgf; omega) (by omega) (by simp) hwd h60 Sm.rf ⟨by omega, w23, a23⟩ (fun k hk => by cases hk) rfl
    refine Ok.lbv ?_
    rw [s1 m_self f_Model_size rfl, z23]
    rcases hen with ⟨e, e0, e1, e2⟩ | ⟨b, b0, b1, b2, b3⟩ | ⟨ls, l1, l2, l3, l4, l5⟩
    · have er : rdT cd sz (bW B) (bL B) = Sum.inl e := by unfold rdT; rw [if_neg c0, e1]
      exact Ok.ite (fun _ => bad e I' e0 er s1 e2 _) (fun _ => Ok.cle (X12_fault_w e0 e2) (bad e I' e0 er s1 e2 _))
    · have er : rdT cd sz (bW B) (bL B) = Sum.inl b := by unfold rdT; rw [if_neg c0, b1]
      rw [b3]
      refine Ok.f (by rw [n_le] <;> omega) (Ok.cle (X12_fault_n b2) ?_)
      exact bad b _ (by omega) er (Sm.mi rfl s1) (by rw [ui_r]) _
    · rw [l3]
      by_cases c : sz ≤ 76
      · have er : rdT cd sz (bW B) (bL B) = Sum.inr ls := by unfold rdT; rw [if_neg c0, l1]; simp only; rw [if_pos c]
        rw [l5]
        exact Ok.t (by rw [n_le] <;> omega) (Ok.t l2 (take ls I' er s1 l4))
      · have er : rdT cd sz (bW B) (bL B) = Sum.inl 76 := by unfold rdT; rw [if_neg c0, l1]; simp only; rw [if_neg c]
        refine Ok.f (by rw [n_le] <;> omega) (Ok.cle (X12_fault_n l2) ?_)
        exact bad 76 _ (by omega) er (Sm.mi rfl s1) (by rw [ui_r]; congr 1; omega) _
theorem CText_0 {I : HI} (h1 : I x_text f_Text_size = 0) (h2 : I m_self f_Model_typed = 0) : CText I := by
  refine ⟨by rw [h1, h2], by rw [h1]; decide, by rw [h1]; decide, fun k hk => ?_⟩
  rw [h1, show (0 : Int32).toInt = 0 from by decide] at hk
  omega
theorem KP_n {B B' : Bd} {nb c i ck cf cg cv cn cp ca cb cl : Nat} (hc : 0 < c) {I I' : HI} {J J' : HJ} (h : KP B nb i ck cf cg cv cn cp ca cb cl I J) (h0 : I' ck f_Kept_full = 0) (m1 : I' m_isKept = I m_isKept) (m2 : I' m_keptBoards = I m_keptBoards) : KP B' (nb + c) i ck cf cg cv cn cp ca cb cl I' J' := by
  obtain ⟨p, _, h2, h3⟩ := h
  refine ⟨false, h0, (fun h => by cases h), fun _ => ?_⟩
  rw [m1, m2]
  cases p with
  | true => obtain ⟨g1, g2, _⟩ := h2 rfl; exact Or.inr ⟨g1, nb, by omega, g2⟩
  | false =>
    rcases h3 rfl with g | ⟨g1, kb, g2, g3⟩
    · exact Or.inl g
    · exact Or.inr ⟨g1, kb, by omega, g3⟩
theorem OP2 (n : Nat) (b : Bool) (I : HI) (J : HJ) (a1 a2 a3 a4 : Int32) (h : Iv (n + 1) b I J) : Op2 (Iv n) b I J a1 a2 a3 a4 := by
  obtain ⟨B, nb, h⟩ := h
  have hB := h.1
  have hX := h.2.1
  have hM := h.2.2.1
  have hBd := h.2.2.2.2.2.2.2.2.2.2.2.2
  obtain ⟨sz, cd, z1, z2, z3, z4, z5⟩ := text_cd h.2.2.2.1
  refine bothF (X11_board hB z1 I J hX z2 z4 (fun k hk => (z5 k hk).1)) (fr_X11_board I J) (fun I1 J1 => fr_X12_board I1 J1) (fun r I1 J1 hP s1 s2 => ?_)
  obtain ⟨p0, hP⟩ := hP
  simp only at p0 hP
  refine (X12_board hB z1 I1 J1 (hM.keep (Ag.of s1 (by decide))) (by rw [s1 _ _ rfl]; exact z3) z4 (fun k hk => by rw [s1 _ _ rfl]; exact (z5 k hk).2) (nb := nb) (by rw [s1 _ _ rfl]; exact hBd.1)).mono (fun q hq => ?_)
  obtain ⟨q0, hq⟩ := hq
  have hth : ∀ t1 : Sm wi_X12_board I1 q.2.1, CText q.2.1 := fun t1 => CText_0 (by rw [t1 _ _ rfl]; exact p0) q0
  rcases hP with ⟨e, e1, e2, e3, e4⟩ | ⟨ls, l1, l2, l3, l4, l5, l6, l7, l8, l9⟩
  · rcases hq with ⟨e', f1, f2, f3, f4⟩ | ⟨ls, f1, _⟩
    · rw [e1] at f1
      injection f1 with f1
      subst f1
      refine ⟨by rw [f2, e2], fun t1 t2 => ?_⟩
      obtain ⟨kX, kM, _, kN, kTo, kP, k0, k1, kTb, kF, kMo, kB⟩ := IV_k h e3 (show Sm [] J J1 from by rw [e4]; exact Sm.rf) f3 (show Sm [] J1 q.2.2 from by rw [f4]; exact Sm.rf)
      exact ⟨B, nb, hB, kX (by decide), kM (by decide), hth t1, kN (by decide), kTo (by decide), kP (by decide), k0 (by decide), k1 (by decide), kTb (by decide), kF (by decide), kMo (by decide), kB (by decide)⟩
    · rw [e1] at f1; cases f1
  · rcases hq with ⟨e', f1, _⟩ | ⟨ls', f1, f2, f3, f4, f5, f6⟩
    · rw [l1] at f1; cases f1
    · rw [l1] at f1
      injection f1 with f1
      subst f1
      refine ⟨by rw [f2, l2], fun t1 t2 => ?_⟩
      have hcl := cwL_le ls
      have hXf : XB (ls.foldl apL B) q.2.1 q.2.2 := l3.keep (Ag.of t1 (by decide)) (Ag.of t2 (by decide))
      have hTb : CTab (ls.foldl apL B) q.2.1 q.2.2 := tab_n (by rw [t1 _ _ rfl]; exact l5)
      have hBf : CBds n (nb + cwL ls) q.2.1 := ⟨f4, by have := hBd.2; omega⟩
      by_cases c : cwL ls = 0
      · obtain ⟨u1, u2⟩ := l8 c
        obtain ⟨v1, v2⟩ := f5 c
        obtain ⟨eW, eL⟩ := apF_W ls B l6 c
        obtain ⟨_, _, _, kN, kTo, kP, k0, k1, _, kF, kMo, _⟩ := IV_k h u1 u2 v1 (show Sm [] J1 q.2.2 from by rw [v2]; exact Sm.rf)
        have hbn : nb + cwL ls = nb := by omega
        rw [hbn] at hBf
        refine ⟨ls.foldl apL B, nb, l4, hXf, f3, hth t1, ?_, kTo (by decide), (kP (by decide)).cw eW, KP.cw (k0 (by decide)) eW, KP.cw (k1 (by decide)) eW, hTb, kF (by decide), kMo (by decide), hBf⟩
        obtain ⟨n1, n2, n3, n4, n5⟩ := kN (by decide)
        unfold CNote
        rw [eW]
        exact ⟨n1, n2, n3, fun i hi => ⟨(n4 i hi).1, fun k hk => (n4 i hi).2 k (by omega)⟩, n5⟩
      · have c' : 0 < cwL ls := by omega
        obtain ⟨x1, x2, x3, x4, x5, x6, x7⟩ := l9 c'
        obtain ⟨m1, m2, m3, m4, m5⟩ := f6 c'
        obtain ⟨_, _, _, _, kTo, _, _, _, _, kF, kMo, _⟩ := IV_k h s1 s2 t1 t2
        have ek : q.2.1 m_isKept = I m_isKept := by
          rw [(Ag.of t1 (rd := [(m_isKept, none)]) (by decide)).c (fun _ => rfl), (Ag.of s1 (rd := [(m_isKept, none)]) (by decide)).c (fun _ => rfl)]
        have eb : q.2.1 m_keptBoards = I m_keptBoards := by
          rw [(Ag.of t1 (rd := [(m_keptBoards, none)]) (by decide)).c (fun _ => rfl), (Ag.of s1 (rd := [(m_keptBoards, none)]) (by decide)).c (fun _ => rfl)]
        refine ⟨ls.foldl apL B, nb + cwL ls, l4, hXf, f3, hth t1, ?_, kTo (by decide), ?_, KP_n c' h.2.2.2.2.2.2.2.1 (by rw [t1 _ _ rfl]; exact x5) ek eb, KP_n c' h.2.2.2.2.2.2.2.2.1 (by rw [t1 _ _ rfl]; exact x6) ek eb, hTb, kF (by decide), kMo (by decide), hBf⟩
        · unfold CNote
          rw [t1 x_notes f_Notes_high rfl, t1 x_notes f_Notes_low rfl, t1 x_notes f_Notes_seenSize rfl, x1, x2, x3, m1, m2, m3]
          refine ⟨rfl, rfl, ⟨fun w => ?_, fun w _ => ⟨bi_z w, bi_z w⟩⟩, fun i hi => ?_, 0, by omega, rfl, rfl, fun k hk => absurd hk (Nat.not_lt_zero _)⟩
          · have : bi (0 : Int32) w = false := bi_z w
            rw [this]; simp
          · rw [m5 i hi, t2 _ _ rfl, x7 i hi]
            exact ⟨rfl, fun k _ => bt_z k⟩
        · exact ⟨0, by omega, by rw [t1 _ _ rfl]; exact x4, m4, fun k hk => absurd hk (Nat.not_lt_zero _)⟩

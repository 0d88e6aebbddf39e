/-! LAYER 2: calls: glows, ghosts, light, why, draws -/
theorem OP9 (n : Nat) (b : Bool) (I : HI) (J : HJ) (a1 a2 a3 a4 : Int32) (h : Iv (n + 1) b I J) : Op9 (Iv n) b I J a1 a2 a3 a4 := by
  obtain ⟨B, nb, h⟩ := h
  have hB := h.1
  have hM := h.2.2.1
  have hN := h.2.2.2.2.1
  refine bothF (P := fun q => q.1 = gwF B 0 (bi (I x_notes f_Notes_high)) (bi (I x_notes f_Notes_low)) ∧ CFlow q.2.1 q.2.2) ?_ (fr_X11_glows I J) (fun I1 J1 => fr_X12_glows I1 J1) ?_
  · unfold F_X11_glows
    rw [cl_some]
    refine (X1_glowingF hB _ _ hN.2.2.1.1 I J h.2.1 h.2.2.2.2.2.2.2.2.2.2.1).mono (fun q hq => ⟨hq.1, gQ_flow hB (nF_0 B) hN.2.2.1.1 hq⟩)
  · intro r I1 J1 hP s1 s2
    obtain ⟨hr, hF1⟩ := hP
    simp only at hr hF1
    have sT := th_s I1 0
    have hM2 : MB B (ui I1 m_self f_Model_thrown 0) := hM.keep (Ag.two s1 sT (by decide) (by decide))
    have hMo2 : CMod (ui I1 m_self f_Model_thrown 0) := h.2.2.2.2.2.2.2.2.2.2.2.1.keep (Ag.two s1 sT (by decide) (by decide))
    unfold F_X12_glows
    refine Ok.lbv ?_
    rw [cl_some, sT m_self f_Model_shownHigh rfl, sT m_self f_Model_shownLow rfl, s1 m_self f_Model_shownHigh rfl, s1 m_self f_Model_shownLow rfl, hN.1, hN.2.1]
    refine (X12_glowWith hB (nF_0 B) none trivial _ _ hN.2.2.1.1 _ J1 hM2 hMo2.c0).mono (fun q hq => ⟨by rw [hq, hr], fun t1 t2 => ?_⟩)
    obtain ⟨kX, kM, kTx, kN, kTo, kP, k0, k1, kTb, _, kMo, kB⟩ := IV_k h s1 s2 t1 t2
    exact ⟨B, nb, hB, kX (by decide), kM (by decide), kTx (by decide), kN (by decide), kTo (by decide), kP (by decide), k0 (by decide), k1 (by decide), kTb (by decide), hF1.keep (Ag.of t1 (by decide)) (Ag.of t2 (by decide)), kMo (by decide), kB (by decide)⟩
theorem OP10 (n : Nat) (b : Bool) (I : HI) (J : HJ) (a1 a2 a3 a4 : Int32) (h : Iv (n + 1) b I J) : Op10 (Iv n) b I J a1 a2 a3 a4 := by
  obtain ⟨B, nb, h⟩ := h
  have hB := h.1
  have hM := h.2.2.1
  have hN := h.2.2.2.2.1
  refine bothF (P := fun q => q.1 = (gwF B 0 (bi (I x_notes f_Notes_high)) (bi (I x_notes f_Notes_low)) &&& (asS B (bi (I x_notes f_Notes_high)) (bi (I x_notes f_Notes_low)) ^^^ (-1))) ∧ CFlow q.2.1 q.2.2) ?_ (fr_X11_ghosts I J) (fun I1 J1 => fr_X12_ghosts I1 J1) ?_
  · unfold F_X11_ghosts
    refine Ok.call ((X1_glowingF hB _ _ hN.2.2.1.1 I J h.2.1 h.2.2.2.2.2.2.2.2.2.2.1).fo (fr_X1_glowing _ _ _ _)) (fun r I1 J1 _ hP => ?_)
    obtain ⟨q1, q2, q3⟩ := hP
    have hfl := gQ_flow hB (nF_0 B) hN.2.2.1.1 q1
    have qr : r = gwF B 0 _ _ := q1.1
    simp only at q2 q3 hfl
    rw [X0_asked hB _ _ I1 J1 (h.2.1.keep (Ag.of q2 (by decide)) (Ag.of q3 (by decide))), q2 _ _ rfl, q2 _ _ rfl]
    refine Ok.cpe rfl (Ok.mk ⟨?_, hfl⟩)
    dsimp only; rw [qr]
  · intro r I1 J1 hP s1 s2
    obtain ⟨hr, hF1⟩ := hP
    simp only at hr hF1
    have sT := th_s I1 0
    have hM2 : MB B (ui I1 m_self f_Model_thrown 0) := hM.keep (Ag.two s1 sT (by decide) (by decide))
    have hMo2 : CMod (ui I1 m_self f_Model_thrown 0) := h.2.2.2.2.2.2.2.2.2.2.2.1.keep (Ag.two s1 sT (by decide) (by decide))
    unfold F_X12_ghosts
    refine Ok.lbv ?_
    have eh : ui I1 m_self f_Model_thrown 0 m_self f_Model_shownHigh = I x_notes f_Notes_high := by rw [sT _ _ rfl, s1 _ _ rfl]; exact hN.1
    have el : ui I1 m_self f_Model_thrown 0 m_self f_Model_shownLow = I x_notes f_Notes_low := by rw [sT _ _ rfl, s1 _ _ rfl]; exact hN.2.1
    rw [eh, el]
    refine Ok.call ((X12_glowWith hB (nF_0 B) none trivial _ _ hN.2.2.1.1 _ J1 hM2 hMo2.c0).fo (fr_X12_glowingWith _ _ _ _ _)) (fun r' I3 J3 _ hP => ?_)
    obtain ⟨q1, q2, q3⟩ := hP
    simp only at q1 q2 q3
    rw [q2 _ _ rfl, q2 _ _ rfl, eh, el, X12_askedFor hB _ _ I3 J3 (hM2.keep (Ag.of q2 (by decide)))]
    refine Ok.cpe rfl (Ok.mk ⟨by dsimp only; rw [q1, hr], fun t1 t2 => ?_⟩)
    dsimp only at t1 t2 ⊢
    obtain ⟨kX, kM, kTx, kN, kTo, kP, k0, k1, kTb, _, kMo, kB⟩ := IV_k h s1 s2 t1 t2
    exact ⟨B, nb, hB, kX (by decide), kM (by decide), kTx (by decide), kN (by decide), kTo (by decide), kP (by decide), k0 (by decide), k1 (by decide), kTb (by decide), hF1.keep (Ag.of t1 (by decide)) (Ag.of t2 (by decide)), kMo (by decide), kB (by decide)⟩
def wQ (B : Bd) (a : Nat) (h l : Int32) (q : Unit × HI × HJ) : Prop := (∀ k, k < 64 → q.2.2 x_flow_light k = lN (liT (ptF B 0 (bi h) (bi l)) k)) ∧ q.2.1 x_flow f_Flow_passing = nI (psT a (ptF B 0 (bi h) (bi l))) ∧ bsX (bsT a (ptF B 0 (bi h) (bi l))) q.2.1 q.2.2 ∧ CFlow q.2.1 q.2.2
theorem X1_watch {B : Bd} (hB : OkB B) (a : Nat) (ha : a < bL B) (h l : Int32) (hd : okS (bi h) (bi l)) (I : HI) (J : HJ) (hX : XB B I J) (hl : litOk J) : Ok (F_X1_watch (nI a) h l I J) (wQ B a h l) := by
  have h60 := hB.2.2.1
  unfold F_X1_watch
  refine Ok.lbv (Ok.lbv (Ok.lbv (Ok.lbv ?_)))
  generalize hI : ui (ui (ui I x_flow f_Flow_passing 0) x_flow f_Flow_bestSize 0) x_flow f_Flow_watched (nI a) = I1
  generalize hJ : uj J x_flow f_Flow_best 0 = J1
  have sI : Sm [(x_flow, some f_Flow_passing), (x_flow, some f_Flow_bestSize), (x_flow, some f_Flow_watched)] I I1 := by rw [← hI]; exact Sm.mi rfl (Sm.mi rfl (Sm.mi rfl Sm.rf))
  have sJ : Sm [(x_flow, some f_Flow_best)] J J1 := by rw [← hJ]; exact Sm.mj rfl Sm.rf
  have hw : wt0 (some a) I1 J1 := by
    refine ⟨by rw [← hI, ui_r]; rfl, fun c _ => ⟨?_, ?_, ?_⟩⟩
    · rw [← hI, ui_j (by decide), ui_j (by decide), ui_r]; rfl
    · rw [← hJ, uj_r]; rfl
    · rw [← hI, ui_j (by decide), ui_r]; rfl
  have hX1 : XB B I1 J1 := hX.keep (Ag.of sI (by decide)) (Ag.of sJ (by decide))
  have := X1_glowing hB (some a) (show a < 64 by omega) h l hd I1 J1 hX1 (litOk_k hl (Ag.of sJ (by decide))) hw
  obtain ⟨⟨r, I2, J2⟩, e, hq⟩ := this
  unfold cl at e ⊢
  cases hc : F_X1_lay h l I1 J1 with
  | none => rw [hc] at e; cases e
  | some q =>
    rw [hc] at e
    simp only [Option.bind_some] at e ⊢
    rw [e]
    simp only [Option.bind_some]
    refine Ok.lbv (Ok.mk ?_)
    obtain ⟨_, r1, r2, r3, r4, r5⟩ := hq
    obtain ⟨t1, t2, t3, t4⟩ := r5 a rfl
    have s3 : Sm [(x_flow, some f_Flow_watched)] I2 (ui I2 x_flow f_Flow_watched (-1)) := Sm.mi rfl Sm.rf
    refine ⟨r1, by dsimp only; rw [s3 _ _ rfl]; exact t1, ⟨t2, by dsimp only; rw [s3 _ _ rfl]; exact t3, fun k hk => by dsimp only; rw [s3 _ _ rfl]; exact t4 k hk⟩, ?_, ?_⟩
    · exact RX_lit (B := B) (wt := some a) (ps := ptF B 0 (bi h) (bi l)) (I := I2) ⟨r1, r2, r3, r4, r5⟩ (ptF_ok hB (nF_0 B) hd).1
    · dsimp only; rw [ui_r]; rfl
def cQ (B : Bd) (wt : Option Nat) (h l : Int32) (q : Unit × HI × HJ) : Prop :=
  (∀ k, k < bL B → q.2.2 m_light k = lN (liT (ptF B 0 (bi h) (bi l)) k) ∧ q.2.1 m_through k = nI (ctT (ptF B 0 (bi h) (bi l)) k) ∧ q.2.2 m_mostOne k = lN (mxT (ptF B 0 (bi h) (bi l)) k)) ∧ (∀ w, w < bW B → q.2.2 m_drawn w = lN (drT (ptF B 0 (bi h) (bi l)) w)) ∧ (∀ a, wt = some a → bsM (bsT a (ptF B 0 (bi h) (bi l))) q.2.1 q.2.2) ∧ CMod q.2.1
theorem X12_countAll {B : Bd} (hB : OkB B) (wt : Option Nat) (hwo : wtOk wt) (h l : Int32) (hd : okS (bi h) (bi l)) (I : HI) (J : HJ) (hM : MB B I) (eh : I m_self f_Model_shownHigh = h) (el : I m_self f_Model_shownLow = l) : Ok (F_X12_countAll (wtI wt) I J) (cQ B wt h l) := by
  unfold F_X12_countAll
  refine Ok.call ((X12_lay hB (nF_0 B) I J hM).fo (fr_X12_lay _ I J)) (fun r I1 J1 _ hP => ?_)
  obtain ⟨q1, q2, q3⟩ := hP
  simp only at q1 q2 q3
  refine Ok.lbv (Ok.lbv (Ok.lbv ?_))
  generalize hI : ui (ui I1 m_self f_Model_asked (wtI wt)) m_self f_Model_isCounted 1 = I2
  generalize hJ : uj J1 m_self f_Model_bestCarry 0 = J2
  have sI : Sm [(m_self, some f_Model_asked), (m_self, some f_Model_isCounted)] I1 I2 := by rw [← hI]; exact Sm.mi rfl (Sm.mi rfl Sm.rf)
  have hM2 : MB B I2 := hM.keep (Ag.two q2 sI (by decide) (by decide))
  have hL2 : LD B (ftK (bW B) 0) (ftA (bW B) 0) (ftB (bW B) 0) I2 := by
    obtain ⟨⟨d1, d2, d3⟩, d4, d5⟩ := q1
    refine ⟨⟨by rw [sI _ _ rfl]; exact d1, fun hh => by rw [sI _ _ rfl]; exact d2 hh, fun hh => by rw [sI _ _ rfl]; exact d3 hh⟩, fun w hw => by rw [sI _ _ rfl]; exact d4 w hw, fun w hw i hi => ?_⟩
    rw [sI _ _ rfl, sI _ _ rfl]; exact d5 w hw i hi
  have hc : c0M true wt I2 J2 := ⟨by rw [← hI, ui_r]; rfl, by rw [← hI, ui_j (by decide), ui_r], fun _ => by rw [← hJ, uj_r]; rfl⟩
  rw [sI m_self f_Model_shownHigh rfl, sI m_self f_Model_shownLow rfl, q2 m_self f_Model_shownHigh rfl, q2 m_self f_Model_shownLow rfl, eh, el]
  refine Ok.call (X12_shine hB (nF_0 B) true wt hwo h l hd I2 J2 hM2 hL2 hc) (fun r3 I3 J3 _ hP => ?_)
  refine Ok.lbv (Ok.lbv (Ok.mk ?_))
  obtain ⟨r1, r2, r3', r4⟩ := hP
  obtain ⟨t1, t2, t3⟩ := r4 rfl
  simp only at r1 t1 t2 t3
  have s3 : Sm [(m_self, some f_Model_isCounted), (m_self, some f_Model_asked)] I3 (ui (ui I3 m_self f_Model_isCounted 0) m_self f_Model_asked (-1)) := Sm.mi rfl (Sm.mi rfl Sm.rf)
  refine ⟨fun k hk => ⟨r1 k hk, by dsimp only; rw [s3 _ _ rfl]; exact (t1 k hk).1, (t1 k hk).2⟩, t2, fun a ha => ?_, ?_, ?_⟩
  · obtain ⟨z1, z2⟩ := t3 a ha
    exact ⟨z1, fun h0 => ⟨by dsimp only; rw [s3 _ _ rfl]; exact (z2 h0).1, fun k hk => by dsimp only; rw [s3 _ _ rfl]; exact (z2 h0).2 k hk⟩⟩
  · dsimp only; rw [ui_j (by decide), ui_r]; rfl
  · dsimp only; rw [ui_r]; rfl
theorem OP13 (n : Nat) (b : Bool) (I : HI) (J : HJ) (a1 a2 a3 a4 : Int32) (h : Iv (n + 1) b I J) : Op13 (Iv n) b I J a1 a2 a3 a4 := by
  obtain ⟨B, nb, h⟩ := h
  have hB := h.1
  have hW := hB.2.1
  have hM := h.2.2.1
  have hX := h.2.1
  have hN := h.2.2.2.2.1
  rcases i_case a1 (bW B) (by omega) with ⟨i, hi, rfl⟩ | ⟨hn, _⟩
  · refine bothF (P := fun q => q.1 = lN (drT (ptF B 0 (bi (I x_notes f_Notes_high)) (bi (I x_notes f_Notes_low))) i) ∧ CFlow q.2.1 q.2.2) ?_ (fr_X11_draws (nI i) I J) (fun I1 J1 => fr_X12_draws (nI i) I1 J1) ?_
    · unfold F_X11_draws
      rw [(X0_hasWire (by omega) hX.1).1 ⟨i, hi, rfl⟩]
      refine Ok.cpe rfl (Ok.f (by decide) ?_)
      refine Ok.call (X1_glowingF hB _ _ hN.2.2.1.1 I J hX h.2.2.2.2.2.2.2.2.2.2.1) (fun r I1 J1 _ hP => ?_)
      have hfl := gQ_flow hB (nF_0 B) hN.2.2.1.1 hP
      refine Ok.bxe (by omega) (by omega) (Ok.mk ⟨?_, hfl⟩)
      dsimp only
      rw [n_cl (by omega)]
      exact hP.2.2.2.1 i (by omega)
    · intro r I1 J1 hP s1 s2
      obtain ⟨hr, hF1⟩ := hP
      simp only at hr hF1
      have sT := th_s I1 0
      have hM2 : MB B (ui I1 m_self f_Model_thrown 0) := hM.keep (Ag.two s1 sT (by decide) (by decide))
      unfold F_X12_draws
      refine Ok.lbv ?_
      rw [(X12_isWire (by omega) hM2.1).1 ⟨i, hi, rfl⟩]
      refine Ok.cpe rfl (Ok.f (by decide) ?_)
      refine Ok.call (X12_countAll hB none trivial _ _ hN.2.2.1.1 _ J1 hM2 (by rw [sT _ _ rfl, s1 _ _ rfl]; exact hN.1) (by rw [sT _ _ rfl, s1 _ _ rfl]; exact hN.2.1)) (fun r' I3 J3 _ hP => ?_)
      refine Ok.bxe (by omega) (by omega) (Ok.mk ⟨?_, fun t1 t2 => ?_⟩)
      · dsimp only
        rw [n_cl (by omega), hr]
        exact hP.2.1 i hi
      · dsimp only at t1 t2 ⊢
        obtain ⟨kX, kM, kTx, kN, kTo, kP, k0, k1, kTb, _, _, kB⟩ := IV_k h s1 s2 t1 t2
        exact ⟨B, nb, hB, kX (by decide), kM (by decide), kTx (by decide), kN (by decide), kTo (by decide), kP (by decide), k0 (by decide), k1 (by decide), kTb (by decide), hF1.keep (Ag.of t1 (by decide)) (Ag.of t2 (by decide)), hP.2.2.2, kB (by decide)⟩
  · refine ⟨-1, I, J, ui I m_self f_Model_thrown 0, J, ?_, ?_, IV_th h (th_s I 0) Sm.rf⟩
    · unfold F_X11_draws
      rw [(X0_hasWire (by omega) hX.1).2 hn]; rfl
    · unfold F_X12_draws
      simp only [lb]
      rw [(X12_isWire (J := J) (by omega) (by rw [ui_j (by decide)]; exact hM.1)).2 hn]; rfl
theorem OP11 (n : Nat) (b : Bool) (I : HI) (J : HJ) (a1 a2 a3 a4 : Int32) (h : Iv (n + 1) b I J) : Op11 (Iv n) b I J a1 a2 a3 a4 := by
  obtain ⟨B, nb, h⟩ := h
  have hB := h.1
  have hW := hB.2.1
  have h60 := hB.2.2.1
  have hM := h.2.2.1
  have hX := h.2.1
  have hN := h.2.2.2.2.1
  rcases i_case a1 (bL B) (by omega) with ⟨i, hi, rfl⟩ | ⟨hn, _⟩
  · generalize hps : ptF B 0 (bi (I x_notes f_Notes_high)) (bi (I x_notes f_Notes_low)) = ps
    have hct := ct_ps ps (by rw [← hps]; exact ptF_nd hB (nF_0 B) hN.2.2.1.1) i
    have hbs := bs_mx i ps
    refine bothF (P := fun q => q.1 = lN (liT ps i) ∧ CFlow q.2.1 q.2.2 ∧ tX [Int32.toInt64 (nI (psT i ps)), lN (mxT ps i)] q.2.1 q.2.2) ?_ (fr_X11_light (nI i) I J) (fun I1 J1 => fr_X12_light (nI i) I1 J1) ?_
    · unfold F_X11_light
      rw [(X0_hasLamp (by omega) hX.2.1).1 ⟨i, hi, rfl⟩]
      refine Ok.cpe rfl (Ok.f (by decide) ?_)
      refine Ok.call (X1_watch hB i hi _ _ hN.2.2.1.1 I J hX h.2.2.2.2.2.2.2.2.2.2.1.1) (fun r I1 J1 _ hP => ?_)
      obtain ⟨p1, p2, p3, p4⟩ := hP
      rw [hps] at p1 p2 p3
      simp only at p1 p2 p3 p4
      obtain ⟨c1, c2⟩ := tX_0 I1 J1
      refine Ok.cle c1 ?_
      have sc : Sm [(x_told, some f_Told_size)] I1 (ui I1 x_told f_Told_size 0) := Sm.mi rfl Sm.rf
      rw [sc x_flow f_Flow_passing rfl, p2]
      refine Ok.call ((tX_add c2 _ (by simp)).fo (fr_X10_add _ _ _)) (fun r I3 J3 _ hP => ?_)
      obtain ⟨d1, d2, d3⟩ := hP
      simp only at d1 d2 d3
      rw [d3 x_flow f_Flow_best rfl, p3.1, hbs]
      refine Ok.call ((tX_add d1 _ (by simp)).fo (fr_X10_add _ _ _)) (fun r I4 J4 _ hP => ?_)
      obtain ⟨f1, f2, f3⟩ := hP
      simp only at f1 f2 f3
      refine Ok.bxe (by omega) (by omega) (Ok.mk ⟨?_, ?_, f1⟩) <;> dsimp only
      · rw [n_cl (by omega), f3 _ _ rfl, d3 _ _ rfl]; exact p1 i (by omega)
      · exact p4.keep (Ag.tr (Ag.of sc (by decide)) (Ag.two d2 f2 (by decide) (by decide))) (Ag.two d3 f3 (by decide) (by decide))
    · intro r I1 J1 hP s1 s2
      obtain ⟨hr, hF1, hT1⟩ := hP
      simp only at hr hF1 hT1
      have sT := th_s I1 0
      have hM2 : MB B (ui I1 m_self f_Model_thrown 0) := hM.keep (Ag.two s1 sT (by decide) (by decide))
      unfold F_X12_light
      refine Ok.lbv ?_
      rw [(X12_isLamp (by omega) hM2.2.1).1 ⟨i, hi, rfl⟩]
      refine Ok.cpe rfl (Ok.f (by decide) ?_)
      refine Ok.call (X12_countAll hB none trivial _ _ hN.2.2.1.1 _ J1 hM2 (by rw [sT _ _ rfl, s1 _ _ rfl]; exact hN.1) (by rw [sT _ _ rfl, s1 _ _ rfl]; exact hN.2.1)) (fun r' I3 J3 _ hP => ?_)
      obtain ⟨p1, p2, p3, p4⟩ := hP
      rw [hps] at p1
      simp only at p1 p4
      obtain ⟨g1, g2, g3⟩ := p1 i hi
      refine Ok.lbv (Ok.bxe (by omega) (by omega) ?_)
      have sc : Sm [(m_self, some f_Model_rowMany)] I3 (ui I3 m_self f_Model_rowMany 0) := Sm.mi rfl Sm.rf
      have c2 : tM [] (ui I3 m_self f_Model_rowMany 0) J3 := ⟨by rw [ui_r]; rfl, fun k hk => by simp at hk⟩
      rw [n_cl (by omega), sc m_through _ rfl, g2, hct]
      refine Ok.call ((tM_add c2 _ (by simp)).fo (fr_X12_tell _ _ _)) (fun r I5 J5 _ hP => ?_)
      obtain ⟨d1, d2, d3⟩ := hP
      simp only at d1 d2 d3
      refine Ok.bxe (by omega) (by omega) ?_
      rw [d3 m_mostOne _ rfl, g3]
      refine Ok.call ((tM_add d1 _ (by simp)).fo (fr_X12_tell _ _ _)) (fun r I6 J6 _ hP => ?_)
      obtain ⟨f1, f2, f3⟩ := hP
      simp only at f1 f2 f3
      refine Ok.bxe (by omega) (by omega) (Ok.mk ⟨?_, fun t1 t2 => ?_⟩)
      · dsimp only; rw [hr, f3 _ _ rfl, d3 _ _ rfl, g1]
      · dsimp only at t1 t2 ⊢
        obtain ⟨kX, kM, kTx, kN, _, kP, k0, k1, kTb, _, _, kB⟩ := IV_k h s1 s2 t1 t2
        refine ⟨B, nb, hB, kX (by decide), kM (by decide), kTx (by decide), kN (by decide), CTold.of (hT1.keep (Ag.of t1 (by decide)) (Ag.of t2 (by decide))) f1, kP (by decide), k0 (by decide), k1 (by decide), kTb (by decide), hF1.keep (Ag.of t1 (by decide)) (Ag.of t2 (by decide)), ?_, kB (by decide)⟩
        exact p4.keep (Ag.tr (Ag.of sc (by decide)) (Ag.two d2 f2 (by decide) (by decide)))
  · refine ⟨-1, I, J, ui I m_self f_Model_thrown 0, J, ?_, ?_, IV_th h (th_s I 0) Sm.rf⟩
    · unfold F_X11_light
      rw [(X0_hasLamp (by omega) hX.2.1).2 hn]; rfl
    · unfold F_X12_light
      simp only [lb]
      rw [(X12_isLamp (J := J) (by omega) (by rw [ui_j (by decide)]; exact hM.2.1)).2 hn]; rfl

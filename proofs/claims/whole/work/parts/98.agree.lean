/-! LAYER 2: calls: judge, which -/
def snX (B : Bd) (m : Nat) (sh sl : Nat → Int32) (sg : Nat → Int64) (I : HI) (J : HJ) : Prop := m ≤ 12 ∧ I x_notes f_Notes_seenSize = nI m ∧ ∀ k, k < m → I x_notes_seenHigh k = sh k ∧ I x_notes_seenLow k = sl k ∧ J x_notes_seenLamps k = sg k ∧ okSt (bW B) (sh k) (sl k)
def snM (B : Bd) (m : Nat) (sh sl : Nat → Int32) (sg : Nat → Int64) (I : HI) (J : HJ) : Prop := m ≤ 12 ∧ I m_self f_Model_seenMany = nI m ∧ ∀ k, k < m → I m_seenHigh k = sh k ∧ I m_seenLow k = sl k ∧ J m_seenLamps k = sg k ∧ okSt (bW B) (sh k) (sl k)
theorem snX.keep {B : Bd} {m : Nat} {sh sl : Nat → Int32} {sg : Nat → Int64} {I I' : HI} {J J' : HJ} (h : snX B m sh sl sg I J) (a : Ag [(x_notes, some f_Notes_seenSize), (x_notes_seenHigh, none), (x_notes_seenLow, none)] I I') (b : Ag [(x_notes_seenLamps, none)] J J') : snX B m sh sl sg I' J' := by
  obtain ⟨h1, h2, h3⟩ := h
  refine ⟨h1, by rw [a _ _ rfl]; exact h2, fun k hk => ?_⟩
  rw [a x_notes_seenHigh _ rfl, a x_notes_seenLow _ rfl, b _ _ rfl]; exact h3 k hk
theorem snM.keep {B : Bd} {m : Nat} {sh sl : Nat → Int32} {sg : Nat → Int64} {I I' : HI} {J J' : HJ} (h : snM B m sh sl sg I J) (a : Ag [(m_self, some f_Model_seenMany), (m_seenHigh, none), (m_seenLow, none)] I I') (b : Ag [(m_seenLamps, none)] J J') : snM B m sh sl sg I' J' := by
  obtain ⟨h1, h2, h3⟩ := h
  refine ⟨h1, by rw [a _ _ rfl]; exact h2, fun k hk => ?_⟩
  rw [a m_seenHigh _ rfl, a m_seenLow _ rfl, b _ _ rfl]; exact h3 k hk
theorem CNote.sn {B : Bd} {I : HI} {J : HJ} (h : CNote B I J) : ∃ m sh sl sg, snX B m sh sl sg I J ∧ snM B m sh sl sg I J := by
  obtain ⟨_, _, _, _, m, n5, n6, n7, n8⟩ := h
  refine ⟨m, I x_notes_seenHigh, I x_notes_seenLow, J x_notes_seenLamps, ⟨n5, n6, fun k hk => ⟨rfl, rfl, rfl, (n8 k hk).2.2.2⟩⟩, n5, n7, fun k hk => ?_⟩
  obtain ⟨g1, g2, g3, g4⟩ := n8 k hk
  exact ⟨g1, g2, g3, g4⟩
/-- whether a fault does not agree with what was seen k-th -/
def dis (B : Bd) (sh sl : Nat → Int32) (sg : Nat → Int64) (f k : Nat) : Bool := !decide (gwF B f (bi (sh k)) (bi (sl k)) = sg k)
theorem X7_against {B : Bd} (hB : OkB B) {m : Nat} {sh sl : Nat → Int32} {sg : Nat → Int64} {f : Nat} (hf : f < nF B) (I : HI) (J : HJ) (hX : XB B I J) (hF : CFlow I J) (hS : snX B m sh sl sg I J) : Ok (F_X7_firstAgainst (nI f) I J) (fun q => q.1 = fsI (fsS (dis B sh sl sg f) m) ∧ CFlow q.2.1 q.2.2) := by
  have hm := hS.1
  unfold F_X7_firstAgainst
  have hl : ∀ K k, k ≤ m → m - k < K → ∀ I J, XB B I J → CFlow I J → snX B m sh sl sg I J → (∀ j, j < k → dis B sh sl sg f j = false) → Ok (F_X7_firstAgainst_L2 (nI f) K (nI k) I J) (fun q => q.1 = fsI (fsS (dis B sh sl sg f) m) ∧ CFlow q.2.1 q.2.2) := by
    refine up ?_ ?_
    · intro K I J _ hF hS hd
      rw [F_X7_firstAgainst_L2]
      refine Ok.t (by rw [hS.2.1, n_le] <;> omega) (Ok.mk ⟨?_, hF⟩)
      rw [fsS_none.mpr hd]; rfl
    · intro K k hk ih I J hX hF hS hd
      obtain ⟨g1, g2, g3, g4⟩ := hS.2.2 k hk
      rw [F_X7_firstAgainst_L2]
      refine Ok.f (by rw [hS.2.1, n_le] <;> omega) (Ok.bxe (by omega) (by omega) (Ok.bxe (by omega) (by omega) ?_))
      rw [n_cl (by omega), g1, g2]
      refine Ok.call ((X7_glowWithF hB f hf _ _ g4.1 I J hX hF).fo (fr_X7_glowWith _ _ _ I J)) (fun r I2 J2 _ hP => ?_)
      obtain ⟨⟨q1, q2⟩, q3, q4⟩ := hP
      simp only at q1 q2 q3 q4
      refine Ok.bxe (by omega) (by omega) ?_
      rw [q4 _ _ rfl, g3, q1, nI_1]
      by_cases c : gwF B f (bi (sh k)) (bi (sl k)) = sg k
      · refine Ok.t (show lg_cmp _ _ = 0 from lc0.mpr c) ?_
        refine ih I2 J2 (hX.keep (Ag.of q3 (by decide)) (Ag.of q4 (by decide))) q2 (hS.keep (Ag.of q3 (by decide)) (Ag.of q4 (by decide))) (fun j hj => ?_)
        by_cases cj : j = k
        · rw [cj]; unfold dis; simp [c]
        · exact hd j (by omega)
      · refine Ok.f (show ¬ lg_cmp _ _ = 0 from fun h0 => c (lc0.mp h0)) (Ok.mk ⟨?_, q2⟩)
        rw [fsS_some.mpr ⟨hk, by unfold dis; simp [c], hd⟩]; rfl
  exact hl bgf 0 (Nat.zero_le _) (by unfold bgf; omega) I J hX hF hS (fun j hj => by omega)
theorem X12_bar {B : Bd} (hB : OkB B) {m : Nat} {sh sl : Nat → Int32} {sg : Nat → Int64} {f : Nat} (hf : f < nF B) (I : HI) (J : HJ) (hM : MB B I) (hMo : CMod I) (hS : snM B m sh sl sg I J) : Ok (F_X12_bar (nI f) I J) (fun q => q.1 = fsI (fsS (dis B sh sl sg f) m)) := by
  have hm := hS.1
  unfold F_X12_bar
  refine Ok.call ((X12_lay hB hf I J hM).fo (fr_X12_lay _ I J)) (fun r I1 J1 _ hP => ?_)
  obtain ⟨q1, q2, q3⟩ := hP
  simp only at q1 q2 q3
  have hl : ∀ K k, k ≤ m → m - k < K → ∀ I J, MB B I → CMod I → LD B (ftK (bW B) f) (ftA (bW B) f) (ftB (bW B) f) I → snM B m sh sl sg I J → (∀ j, j < k → dis B sh sl sg f j = false) → Ok (F_X12_bar_L7 K (nI k) I J) (fun q => q.1 = fsI (fsS (dis B sh sl sg f) m)) := by
    refine up ?_ ?_
    · intro K I J _ _ _ hS hd
      rw [F_X12_bar_L7]
      refine Ok.t (by rw [hS.2.1, n_le] <;> omega) (Ok.mk ?_)
      rw [fsS_none.mpr hd]; rfl
    · intro K k hk ih I J hM hMo hL hS hd
      obtain ⟨g1, g2, g3, g4⟩ := hS.2.2 k hk
      rw [F_X12_bar_L7]
      refine Ok.f (by rw [hS.2.1, n_le] <;> omega) (Ok.bxe (by omega) (by omega) (Ok.bxe (by omega) (by omega) ?_))
      rw [n_cl (by omega), g1, g2]
      refine Ok.call ((X12_glowing hB hf none trivial _ _ g4.1 I J hM hL hMo.c0).fo (fr_X12_glowing _ _ I J)) (fun r I2 J2 _ hP => ?_)
      obtain ⟨⟨q1, _⟩, q3, q4⟩ := hP
      simp only at q1 q3 q4
      refine Ok.bxe (by omega) (by omega) ?_
      rw [q4 _ _ rfl, g3, q1, nI_1]
      by_cases c : gwF B f (bi (sh k)) (bi (sl k)) = sg k
      · refine Ok.t (show lg_cmp _ _ = 0 from lc0.mpr c) ?_
        refine ih I2 J2 (hM.keep (Ag.of q3 (by decide))) (hMo.keep (Ag.of q3 (by decide))) (hL.keep (Ag.of q3 (by decide))) (hS.keep (Ag.of q3 (by decide)) (Ag.of q4 (by decide))) (fun j hj => ?_)
        by_cases cj : j = k
        · rw [cj]; unfold dis; simp [c]
        · exact hd j (by omega)
      · refine Ok.f (show ¬ lg_cmp _ _ = 0 from fun h0 => c (lc0.mp h0)) (Ok.mk ?_)
        rw [fsS_some.mpr ⟨hk, by unfold dis; simp [c], hd⟩]; rfl
  exact hl bgf 0 (Nat.zero_le _) (by unfold bgf; omega) I1 J1 (hM.keep (Ag.of q2 (by decide))) (hMo.keep (Ag.of q2 (by decide))) q1 (hS.keep (Ag.of q2 (by decide)) (Ag.of q3 (by decide))) (fun j hj => by omega)
theorem OP39 (n : Nat) (b : Bool) (I : HI) (J : HJ) (a1 a2 a3 a4 : Int32) (h : Iv (n + 1) b I J) : Op39 (Iv n) b I J a1 a2 a3 a4 := by
  obtain ⟨B, nb, h⟩ := h
  have hB := h.1
  have hX := h.2.1
  have hM0 := h.2.2.1
  have hTF := h.2.2.2.2.2.2.2.2.2
  obtain ⟨m, sh, sl, sg, hSx, hSm⟩ := h.2.2.2.2.1.sn
  rcases i_case a1 (nF B) (by have := nF_le hB; omega) with ⟨f, hf, rfl⟩ | ⟨hn, _⟩
  · refine srch h (fr_X11_judge (nI f) I J) (fun I1 J1 => fr_X12_judge (nI f) I1 J1) (by decide) (fsI (fsS (dis B sh sl sg f) m)) none ?_ ?_
    · unfold F_X11_judge
      rw [cl_some]
      refine Ok.cpe ((X7_has hB hX).1 ⟨f, hf, rfl⟩) (Ok.f (by decide) ?_)
      refine ((X7_against hB hf I J hX hTF.2.1 hSx).fo (fr_X7_firstAgainst _ I J)).mono (fun q hq => ?_)
      obtain ⟨⟨q1, q2⟩, q3, q4⟩ := hq
      exact ⟨q1, hTF.1.keep (Ag.of q3 (by decide)) (Ag.of q4 (by decide)), q2, toX_o q3 q4 (by decide) (by decide)⟩
    · intro I1 J1 hM hMo u1 u2
      have sT := th_s I1 0
      have hM2 : MB B (ui I1 m_self f_Model_thrown 0) := hM.keep (Ag.of sT (by decide))
      unfold F_X12_judge
      refine Ok.lbv ?_
      rw [cl_some]
      refine Ok.cpe ((X12_isFault hB hM2).1 ⟨f, hf, rfl⟩) (Ok.f (by decide) ?_)
      refine ((X12_bar hB hf _ J1 hM2 (hMo.keep (Ag.of sT (by decide))) (hSm.keep (Ag.two u1 sT (by decide) (by decide)) (Ag.of u2 (by decide)))).fo (fr_X12_bar _ _ J1)).mono (fun q hq => ?_)
      obtain ⟨q1, q3, q4⟩ := hq
      exact ⟨q1, hMo.keep (Ag.two sT q3 (by decide) (by decide)), toM_2 sT q3 q4 (by decide) (by decide) (by decide)⟩
  · refine ⟨-1, I, J, ui I m_self f_Model_thrown 0, J, ?_, ?_, IV_th h (th_s I 0) Sm.rf⟩
    · unfold F_X11_judge
      exact cp0 ((X7_has hB hX).2 hn)
    · unfold F_X12_judge
      exact (lb_e _ _).trans (cp0 ((X12_isFault (J := J) hB (hM0.keep (Ag.of (th_s I 0) (by decide)))).2 hn))
/-- the faults that agree -/
def agL (B : Bd) (m : Nat) (sh sl : Nat → Int32) (sg : Nat → Int64) (i : Nat) : List Nat := (List.range i).filter (fun f => (fsS (dis B sh sl sg f) m).isNone)
theorem agL_s (B : Bd) (m : Nat) (sh sl : Nat → Int32) (sg : Nat → Int64) (i : Nat) : agL B m sh sl sg (i + 1) = if (fsS (dis B sh sl sg i) m).isNone then agL B m sh sl sg i ++ [i] else agL B m sh sl sg i := by
  unfold agL
  rw [List.range_succ, List.filter_append]
  cases h : (fsS (dis B sh sl sg i) m).isNone <;> simp [h]
theorem agL_len (B : Bd) (m : Nat) (sh sl : Nat → Int32) (sg : Nat → Int64) (i : Nat) : (agL B m sh sl sg i).length ≤ i := by
  unfold agL
  have := List.length_filter_le (fun f => (fsS (dis B sh sl sg f) m).isNone) (List.range i)
  rwa [List.length_range] at this
def agX (C : List Nat) (I : HI) : Prop := I x_suspects f_Suspects_agreeing = nI C.length ∧ ∀ k, k < C.length → I x_suspects_agrees k = nI (C.getD k 0)
def agM (C : List Nat) (I : HI) : Prop := I m_self f_Model_agreeMany = nI C.length ∧ ∀ k, k < C.length → I m_agreed k = nI (C.getD k 0)
theorem agX.keep {C : List Nat} {I I' : HI} (h : agX C I) (a : Ag [(x_suspects, some f_Suspects_agreeing), (x_suspects_agrees, none)] I I') : agX C I' := ⟨by rw [a _ _ rfl]; exact h.1, fun k hk => by rw [a _ _ rfl]; exact h.2 k hk⟩
theorem agM.keep {C : List Nat} {I I' : HI} (h : agM C I) (a : Ag [(m_self, some f_Model_agreeMany), (m_agreed, none)] I I') : agM C I' := ⟨by rw [a _ _ rfl]; exact h.1, fun k hk => by rw [a _ _ rfl]; exact h.2 k hk⟩
theorem X7_gather {B : Bd} (hB : OkB B) {m : Nat} {sh sl : Nat → Int32} {sg : Nat → Int64} (I : HI) (J : HJ) (hX : XB B I J) (hF : CFlow I J) (hS : snX B m sh sl sg I J) : Ok (F_X7_gather I J) (fun q => agX (agL B m sh sl sg (nF B)) q.2.1 ∧ CFlow q.2.1 q.2.2) := by
  have hn := nF_le hB
  unfold F_X7_gather
  have s0 : Sm [(x_suspects, some f_Suspects_agreeing)] I (ui I x_suspects f_Suspects_agreeing 0) := Sm.mi rfl Sm.rf
  have hX0 : XB B (ui I x_suspects f_Suspects_agreeing 0) J := hX.keep (Ag.of s0 (by decide)) (fun _ _ _ => rfl)
  refine Ok.lbv (Ok.cpe (X7_size hB hX0) ?_)
  have hl : ∀ K i, i ≤ nF B → nF B - i < K → ∀ I J, XB B I J → CFlow I J → snX B m sh sl sg I J → agX (agL B m sh sl sg i) I → Ok (F_X7_gather_L12 (nI (nF B)) K (nI i) I J) (fun q => agX (agL B m sh sl sg (nF B)) q.2.1 ∧ CFlow q.2.1 q.2.2) := by
    refine up ?_ ?_
    · intro K I J _ hF _ ha
      rw [F_X7_gather_L12]
      exact Ok.t (by rw [n_le] <;> omega) (Ok.mk ⟨ha, hF⟩)
    · intro K i hi ih I J hX hF hS ha
      have hlen := agL_len B m sh sl sg i
      rw [F_X7_gather_L12]
      refine Ok.f (by rw [n_le] <;> omega) (Ok.f (show ¬ (116 : Int32) ≤ I x_suspects f_Suspects_agreeing by
        rw [ha.1]
        exact (by rw [n_le (by omega) (by omega)]; omega : ¬ nI 116 ≤ nI (agL B m sh sl sg i).length)) ?_)
      refine Ok.call ((X7_against hB hi I J hX hF hS).fo (fr_X7_firstAgainst _ I J)) (fun r I2 J2 _ hP => ?_)
      obtain ⟨⟨q1, q2⟩, q3, q4⟩ := hP
      simp only at q1 q2 q3 q4
      have hX2 := hX.keep (Ag.of q3 (by decide)) (Ag.of q4 (by decide))
      have hS2 := hS.keep (Ag.of q3 (by decide)) (Ag.of q4 (by decide))
      have ha2 : agX (agL B m sh sl sg i) I2 := ha.keep (Ag.of q3 (by decide))
      rw [agL_s] at ih
      rw [nI_1, q1]
      refine Ok.lbv ?_
      cases hf : fsS (dis B sh sl sg i) m with
      | none =>
        rw [hf] at ih
        refine Ok.t rfl ?_
        rw [ha2.1]
        refine Ok.bxe (by omega) (by omega) (Ok.lbv (Ok.lbv ?_))
        rw [n_cl (by omega), ui_c (by decide), ha2.1]
        have s3 : Sm [(x_suspects, some f_Suspects_agreeing), (x_suspects_agrees, none)] I2 (ui (ui I2 x_suspects_agrees (agL B m sh sl sg i).length (nI i)) x_suspects f_Suspects_agreeing (nI (agL B m sh sl sg i).length + 1)) := Sm.mi rfl (Sm.mi rfl Sm.rf)
        refine ih _ J2 (hX2.keep (Ag.of s3 (by decide)) (fun _ _ _ => rfl)) (q2.keep (Ag.of s3 (by decide)) (fun _ _ _ => rfl)) (hS2.keep (Ag.of s3 (by decide)) (fun _ _ _ => rfl)) ⟨?_, fun k hk => ?_⟩
        · rw [ui_r, nI_1]; simp
        · simp only [Option.isNone_none, if_true, List.length_append, List.length_singleton] at hk ⊢
          rw [ui_c (by decide), ui_s]
          by_cases c : k = (agL B m sh sl sg i).length
          · rw [if_pos c, c, getD_appL]
          · rw [if_neg c, getD_app (by omega)]; exact ha2.2 k (by omega)
      | some s =>
        rw [hf] at ih
        have hs := (fsS_some.mp hf).1
        have hm := hS.1
        refine Ok.f (show ¬ fsI (some s) = -2 from fun h0 => by
          have h0' := congrArg Int32.toInt h0
          rw [show fsI (some s) = nI s from rfl, n_int (by omega)] at h0'
          have : (-2 : Int32).toInt = -2 := by decide
          rw [this] at h0'; omega) ?_
        exact ih I2 J2 hX2 q2 hS2 ha2
  exact hl bgf 0 (Nat.zero_le _) (by unfold bgf; omega) _ J hX0 (hF.keep (Ag.of s0 (by decide)) (fun _ _ _ => rfl)) (hS.keep (Ag.of s0 (by decide)) (fun _ _ _ => rfl)) ⟨by rw [ui_r]; rfl, fun k hk => by simp [agL] at hk⟩
theorem X12_agreed {B : Bd} (hB : OkB B) {m : Nat} {sh sl : Nat → Int32} {sg : Nat → Int64} (I : HI) (J : HJ) (hM : MB B I) (hMo : CMod I) (hS : snM B m sh sl sg I J) : Ok (F_X12_findAgreed I J) (fun q => agM (agL B m sh sl sg (nF B)) q.2.1) := by
  have hn := nF_le hB
  unfold F_X12_findAgreed
  have s0 : Sm [(m_self, some f_Model_agreeMany)] I (ui I m_self f_Model_agreeMany 0) := Sm.mi rfl Sm.rf
  refine Ok.lbv ?_
  have hl : ∀ K i, i ≤ nF B → nF B - i < K → ∀ I J, MB B I → CMod I → snM B m sh sl sg I J → agM (agL B m sh sl sg i) I → Ok (F_X12_findAgreed_L7 K (nI i) I J) (fun q => agM (agL B m sh sl sg (nF B)) q.2.1) := by
    refine up ?_ ?_
    · intro K I J hM _ _ ha
      rw [F_X12_findAgreed_L7]
      exact Ok.cpe (X12_faultMany hB hM) (Ok.t (by rw [n_le] <;> omega) (Ok.mk ha))
    · intro K i hi ih I J hM hMo hS ha
      have hlen := agL_len B m sh sl sg i
      rw [F_X12_findAgreed_L7]
      refine Ok.cpe (X12_faultMany hB hM) (Ok.f (by rw [n_le] <;> omega) ?_)
      refine Ok.call ((X12_bar hB hi I J hM hMo hS).fo (fr_X12_bar _ I J)) (fun r I2 J2 _ hP => ?_)
      obtain ⟨q1, q3, q4⟩ := hP
      simp only at q1 q3 q4
      have hM2 := hM.keep (Ag.of q3 (by decide))
      have hMo2 := hMo.keep (Ag.of q3 (by decide))
      have hS2 := hS.keep (Ag.of q3 (by decide)) (Ag.of q4 (by decide))
      have ha2 : agM (agL B m sh sl sg i) I2 := ha.keep (Ag.of q3 (by decide))
      rw [agL_s] at ih
      rw [nI_1, q1]
      refine Ok.lbv ?_
      cases hf : fsS (dis B sh sl sg i) m with
      | none =>
        rw [hf] at ih
        refine Ok.t rfl ?_
        rw [ha2.1]
        refine Ok.bxe (by omega) (by omega) (Ok.lbv (Ok.lbv ?_))
        rw [n_cl (by omega), ui_c (by decide), ha2.1]
        have s3 : Sm [(m_self, some f_Model_agreeMany), (m_agreed, none)] I2 (ui (ui I2 m_agreed (agL B m sh sl sg i).length (nI i)) m_self f_Model_agreeMany (nI (agL B m sh sl sg i).length + 1)) := Sm.mi rfl (Sm.mi rfl Sm.rf)
        refine ih _ J2 (hM2.keep (Ag.of s3 (by decide))) (hMo2.keep (Ag.of s3 (by decide))) (hS2.keep (Ag.of s3 (by decide)) (fun _ _ _ => rfl)) ⟨?_, fun k hk => ?_⟩
        · rw [ui_r, nI_1]; simp
        · simp only [Option.isNone_none, if_true, List.length_append, List.length_singleton] at hk ⊢
          rw [ui_c (by decide), ui_s]
          by_cases c : k = (agL B m sh sl sg i).length
          · rw [if_pos c, c, getD_appL]
          · rw [if_neg c, getD_app (by omega)]; exact ha2.2 k (by omega)
      | some s =>
        rw [hf] at ih
        have hs := (fsS_some.mp hf).1
        have hm := hS.1
        refine Ok.f (show ¬ fsI (some s) = -2 from fun h0 => by
          have h0' := congrArg Int32.toInt h0
          rw [show fsI (some s) = nI s from rfl, n_int (by omega)] at h0'
          have : (-2 : Int32).toInt = -2 := by decide
          rw [this] at h0'; omega) ?_
        exact ih I2 J2 hM2 hMo2 hS2 ha2
  exact hl bgf 0 (Nat.zero_le _) (by unfold bgf; omega) _ J (hM.keep (Ag.of s0 (by decide))) (hMo.keep (Ag.of s0 (by decide))) (hS.keep (Ag.of s0 (by decide)) (fun _ _ _ => rfl)) ⟨by rw [ui_r]; rfl, fun k hk => by simp [agL] at hk⟩
theorem X11_which_L {C : List Nat} (hC : C.length ≤ 116) (I0 : HI) (J0 : HJ) (ha : agX C I0) (kx : HI → HJ → Option (Int32 × HI × HJ)) (Q : Int32 × HI × HJ → Prop) (hx : ∀ I J, tX (wsL (C.take 8)) I J → Sm [(x_told, some f_Told_size)] I0 I → Sm [(x_told_numbers, none)] J0 J → Ok (kx I J) Q) :
    ∀ K i, i ≤ (C.take 8).length → (C.take 8).length - i < K → ∀ I J, tX ((wsL (C.take 8)).take i) I J → Sm [(x_told, some f_Told_size)] I0 I → Sm [(x_told_numbers, none)] J0 J → Ok (F_X11_which_L16 kx K (nI i) I J) Q := by
  have hl8 : (C.take 8).length = min 8 C.length := List.length_take
  refine up ?_ ?_
  · intro K I J ht s1 s2
    rw [← wsL_len, List.take_length] at ht
    rw [F_X11_which_L16, s1 x_suspects f_Suspects_agreeing rfl, ha.1]
    by_cases c : C.length ≤ (C.take 8).length
    · exact Ok.t (by rw [n_le] <;> omega) (hx I J ht s1 s2)
    · refine Ok.f (by rw [n_le] <;> omega) (Ok.t (show (8 : Int32) ≤ nI (C.take 8).length from (by rw [n_le (by omega) (by omega)]; omega : nI 8 ≤ nI (C.take 8).length)) (hx I J ht s1 s2))
  · intro K i hi ih I J ht s1 s2
    have hiC : i < C.length := by omega
    rw [F_X11_which_L16, s1 x_suspects f_Suspects_agreeing rfl, ha.1]
    refine Ok.f (by rw [n_le] <;> omega) (Ok.f (show ¬ (8 : Int32) ≤ nI i from (by rw [n_le (by omega) (by omega)]; omega : ¬ nI 8 ≤ nI i)) (Ok.bxe (by omega) (by omega) ?_))
    have eg : C.getD i 0 = (C.take 8).getD i 0 := by
      have i8 : i < 8 := by omega
      simp [List.getD, List.getElem?_take, i8]
    rw [n_cl (by omega), s1 x_suspects_agrees _ rfl, ha.2 i hiC, nI_1, eg, ← wsL_get hi]
    refine Ok.call ((tX_add ht _ (by rw [List.length_take, wsL_len]; omega)).fo (fr_X10_add _ _ _)) (fun r I3 J3 _ hP => ?_)
    obtain ⟨d1, d2, d3⟩ := hP
    simp only at d1 d2 d3
    rw [← take_s64 _ (by rw [wsL_len]; exact hi)] at d1
    exact ih I3 J3 d1 (Sm.tr rfl s1 d2) (Sm.tr rfl s2 d3)
theorem X12_which_L {C : List Nat} (hC : C.length ≤ 116) (I0 : HI) (J0 : HJ) (ha : agM C I0) (kx : HI → HJ → Option (Int32 × HI × HJ)) (Q : Int32 × HI × HJ → Prop) (hx : ∀ I J, tM (wsL (C.take 8)) I J → Sm [(m_self, some f_Model_rowMany)] I0 I → Sm [(m_row, none)] J0 J → Ok (kx I J) Q) :
    ∀ K i, i ≤ (C.take 8).length → (C.take 8).length - i < K → ∀ I J, tM ((wsL (C.take 8)).take i) I J → Sm [(m_self, some f_Model_rowMany)] I0 I → Sm [(m_row, none)] J0 J → Ok (F_X12_which_L16 kx K (nI i) I J) Q := by
  have hl8 : (C.take 8).length = min 8 C.length := List.length_take
  refine up ?_ ?_
  · intro K I J ht s1 s2
    rw [← wsL_len, List.take_length] at ht
    rw [F_X12_which_L16, s1 m_self f_Model_agreeMany rfl, ha.1]
    by_cases c : C.length ≤ (C.take 8).length
    · exact Ok.t (by rw [n_le] <;> omega) (hx I J ht s1 s2)
    · refine Ok.f (by rw [n_le] <;> omega) (Ok.t (show (8 : Int32) ≤ nI (C.take 8).length from (by rw [n_le (by omega) (by omega)]; omega : nI 8 ≤ nI (C.take 8).length)) (hx I J ht s1 s2))
  · intro K i hi ih I J ht s1 s2
    have hiC : i < C.length := by omega
    rw [F_X12_which_L16, s1 m_self f_Model_agreeMany rfl, ha.1]
    refine Ok.f (by rw [n_le] <;> omega) (Ok.f (show ¬ (8 : Int32) ≤ nI i from (by rw [n_le (by omega) (by omega)]; omega : ¬ nI 8 ≤ nI i)) (Ok.bxe (by omega) (by omega) ?_))
    have eg : C.getD i 0 = (C.take 8).getD i 0 := by
      have i8 : i < 8 := by omega
      simp [List.getD, List.getElem?_take, i8]
    rw [n_cl (by omega), s1 m_agreed _ rfl, ha.2 i hiC, nI_1, eg, ← wsL_get hi]
    refine Ok.call ((tM_add ht _ (by rw [List.length_take, wsL_len]; omega)).fo (fr_X12_tell _ _ _)) (fun r I3 J3 _ hP => ?_)
    obtain ⟨d1, d2, d3⟩ := hP
    simp only at d1 d2 d3
    rw [← take_s64 _ (by rw [wsL_len]; exact hi)] at d1
    exact ih I3 J3 d1 (Sm.tr rfl s1 d2) (Sm.tr rfl s2 d3)
theorem OP38 (n : Nat) (b : Bool) (I : HI) (J : HJ) (a1 a2 a3 a4 : Int32) (h : Iv (n + 1) b I J) : Op38 (Iv n) b I J a1 a2 a3 a4 := by
  obtain ⟨B, nb, h⟩ := h
  have hB := h.1
  have hn := nF_le hB
  have hX := h.2.1
  have hTF := h.2.2.2.2.2.2.2.2.2
  obtain ⟨m, sh, sl, sg, hSx, hSm⟩ := h.2.2.2.2.1.sn
  have hC : (agL B m sh sl sg (nF B)).length ≤ 116 := Nat.le_trans (agL_len B m sh sl sg (nF B)) hn
  refine srch h (fr_X11_which I J) (fun I1 J1 => fr_X12_which I1 J1) (by decide) (nI (agL B m sh sl sg (nF B)).length) (some (wsL ((agL B m sh sl sg (nF B)).take 8))) ?_ ?_
  · unfold F_X11_which
    refine Ok.call ((X7_gather hB I J hX hTF.2.1 hSx).fo (fr_X7_gather I J)) (fun r I2 J2 _ hP => ?_)
    obtain ⟨⟨q1, q2⟩, q3, q4⟩ := hP
    simp only at q1 q2 q3 q4
    have hT2 := hTF.1.keep (Ag.of q3 (by decide)) (Ag.of q4 (by decide))
    refine clr1 (fun I5 c1 c2 => ?_)
    refine X11_which_L hC I5 J2 (q1.keep (Ag.of c2 (by decide))) _ _ ?_ bgf 0 (Nat.zero_le _) (by rw [List.length_take]; unfold bgf; omega) I5 J2 (by simpa using c1) Sm.rf Sm.rf
    intro I6 J6 ht s1 s2
    refine Ok.mk ⟨?_, ?_, ?_, ht⟩ <;> dsimp only
    · rw [s1 _ _ rfl, c2 _ _ rfl]; exact q1.1
    · exact hT2.keep (Ag.two c2 s1 (by decide) (by decide)) (Ag.of s2 (by decide))
    · exact q2.keep (Ag.two c2 s1 (by decide) (by decide)) (Ag.of s2 (by decide))
  · intro I1 J1 hM hMo u1 u2
    have sT := th_s I1 0
    have hM2 : MB B (ui I1 m_self f_Model_thrown 0) := hM.keep (Ag.of sT (by decide))
    unfold F_X12_which
    refine Ok.lbv ?_
    refine Ok.call ((X12_agreed hB _ J1 hM2 (hMo.keep (Ag.of sT (by decide))) (hSm.keep (Ag.two u1 sT (by decide) (by decide)) (Ag.of u2 (by decide)))).fo (fr_X12_findAgreed _ J1)) (fun r I2 J2 _ hP => ?_)
    obtain ⟨q1, q3, q4⟩ := hP
    simp only at q1 q3 q4
    have hMo2 : CMod I2 := hMo.keep (Ag.two sT q3 (by decide) (by decide))
    refine clrM (J := J2) (fun I5 c1 c2 => ?_)
    refine X12_which_L hC I5 J2 (q1.keep (Ag.of c2 (by decide))) _ _ ?_ bgf 0 (Nat.zero_le _) (by rw [List.length_take]; unfold bgf; omega) I5 J2 (by simpa using c1) Sm.rf Sm.rf
    intro I6 J6 ht s1 s2
    refine Ok.mk ⟨?_, ?_, ht⟩ <;> dsimp only
    · rw [s1 _ _ rfl, c2 _ _ rfl]; exact q1.1
    · exact (hMo2.k1 c2).k1 s1

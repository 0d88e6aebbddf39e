/-! LAYER 2: the reference, laid without a fault, stays so -/
theorem X12_fg_97_LL {B : Bd} (hB : OkB B) (hW : bW B ≤ 7) {f : Nat} (hf : f < nF B) :
    ∀ K i, i ≤ 3 ^ bW B → 3 ^ bW B - i < K → ∀ I J, MB B I → LD B (ftK (bW B) f) (ftA (bW B) f) (ftB (bW B) f) I → CMod I → (∀ s, s < i → J m_glow s = gS B f s) → Ok (F_X12_findGlow_99_L13 (nI (3 ^ bW B)) K (nI i) I J) (fun q => (∀ s, s < 3 ^ bW B → q.2.2 m_glow s = gS B f s) ∧ LD B (ftK (bW B) f) (ftA (bW B) f) (ftB (bW B) f) q.2.1) := by
  have hp := p3_le hW
  refine up ?_ ?_
  · intro K I J _ hL _ ht
    rw [F_X12_findGlow_99_L13, if_pos (by rw [n_le] <;> omega)]
    exact Ok.mk ⟨ht, hL⟩
  · intro K i hi ih I J hM hL hMo ht
    rw [F_X12_findGlow_99_L13, if_neg (by rw [n_le] <;> omega)]
    obtain ⟨e1, e2⟩ := X12_high hB (J := J) hM i (by omega)
    refine Ok.cpe e1 (Ok.cpe e2 ?_)
    refine Ok.call ((X12_glowing hB hf none trivial _ _ (wr_ok (bW B) i hB.2.1).1 I J hM hL hMo.c0).fo (fr_X12_glowing _ _ I J)) (fun r I1 J1 _ hP => ?_)
    obtain ⟨⟨q1, _⟩, q2, q3⟩ := hP
    simp only at q1 q2 q3
    refine Ok.bxe (by omega) (by omega) (Ok.lbv ?_)
    rw [n_cl (by omega), nI_1]
    refine ih I1 _ (hM.keep (Ag.of q2 (by decide))) (hL.keep (Ag.of q2 (by decide))) (hMo.keep (Ag.of q2 (by decide))) (fun s hs => ?_)
    rw [uj_s]
    by_cases c : s = i
    · rw [if_pos c, q1, c]; rfl
    · rw [if_neg c, q3 _ _ rfl]; exact ht s (by omega)
theorem X12_fg_97L {B : Bd} (hB : OkB B) (hW : bW B ≤ 7) {f : Nat} (hf : f < nF B) (I : HI) (J : HJ) (hM : MB B I) (hMo : CMod I) : Ok (F_X12_findGlow_99 (nI f) I J) (fun q => (∀ s, s < 3 ^ bW B → q.2.2 m_glow s = gS B f s) ∧ LD B (ftK (bW B) f) (ftA (bW B) f) (ftB (bW B) f) q.2.1) := by
  have hp := p3_le hW
  unfold F_X12_findGlow_99
  refine Ok.call ((X12_lay hB hf I J hM).fo (fr_X12_lay _ I J)) (fun r I1 J1 _ hP => ?_)
  obtain ⟨q1, q2, q3⟩ := hP
  simp only at q1 q2 q3
  have hM1 : MB B I1 := hM.keep (Ag.of q2 (by decide))
  refine Ok.cpe (X12_settings _ hW hM1.1) ?_
  exact X12_fg_97_LL hB hW hf bgf 0 (Nat.zero_le _) (by unfold bgf; omega) I1 J1 hM1 q1 (hMo.keep (Ag.of q2 (by decide))) (fun s hs => by omega)
theorem X12_findAllL {B : Bd} (hB : OkB B) (hW : bW B ≤ 7) (I : HI) (J : HJ) (hM : MB B I) (hMo : CMod I) : Ok (F_X12_findAll I J) (fun q => faQ B q.2.1 q.2.2 ∧ LD B (ftK (bW B) 0) (ftA (bW B) 0) (ftB (bW B) 0) q.2.1) := by
  have hp := p3_le hW
  unfold F_X12_findAll
  refine Ok.call ((X12_fg_97L hB hW (nF_0 B) I J hM hMo).fo (fr_X12_findGlow_99 _ I J)) (fun r I1 J1 _ hP => ?_)
  obtain ⟨⟨q1, qL⟩, q2, q3⟩ := hP
  simp only at q1 qL q2 q3
  have hM1 : MB B I1 := hM.keep (Ag.of q2 (by decide))
  refine Ok.cpe (X12_settings _ hW hM1.1) ?_
  have hl : ∀ K i, i ≤ 3 ^ bW B → 3 ^ bW B - i < K → ∀ I', Sm [(m_isGhostly, none)] I1 I' → (∀ s, s < i → I' m_isGhostly s = b1 (!clS B s)) → Ok (F_X12_findAll_L16 (nI (3 ^ bW B)) J1 K (nI i) I') (fun q => faQ B q.2.1 q.2.2 ∧ LD B (ftK (bW B) 0) (ftA (bW B) 0) (ftB (bW B) 0) q.2.1) := by
    refine up ?_ ?_
    · intro K I' s1 ht
      rw [F_X12_findAll_L16, if_pos (by rw [n_le] <;> omega)]
      exact Ok.mk ⟨fun s hs => ⟨q1 s hs, ht s hs⟩, qL.keep (Ag.of s1 (by decide))⟩
    · intro K i hi ih I' s1 ht
      rw [F_X12_findAll_L16, if_neg (by rw [n_le] <;> omega)]
      have hM2 : MB B I' := hM1.keep (Ag.of s1 (by decide))
      obtain ⟨e1, e2⟩ := X12_high hB (J := J1) hM2 i (by omega)
      refine Ok.bxe (by omega) (by omega) (Ok.cpe e1 (Ok.cpe e2 (Ok.cpe (X12_askedFor hB _ _ I' J1 hM2) ?_)))
      have fin : Ok (F_X12_findAll_L16 (nI (3 ^ bW B)) J1 K (nI (i + 1)) (ui I' m_isGhostly i (b1 (!clS B i)))) (fun q => faQ B q.2.1 q.2.2 ∧ LD B (ftK (bW B) 0) (ftA (bW B) 0) (ftB (bW B) 0) q.2.1) := by
        refine ih _ (Sm.mi rfl s1) (fun s hs => ?_)
        rw [ui_s]
        by_cases c : s = i
        · rw [if_pos c, c]
        · rw [if_neg c]; exact ht s (by omega)
      simp (disch := omega) only [lb, lit32, litL, cm0, n_bx, n_cl, nI_1, nI_add, q1 i hi]
      by_cases c : gS B 0 i &&& (asS B (bi (wr (bW B) 1 i)) (bi (wr (bW B) 2 i)) ^^^ (-lN 1)) = lN 0
      · have e2 : clS B i = true := by unfold clS; simp [c]
        rw [if_pos c]
        rw [e2] at fin
        exact fin
      · have e2 : clS B i = false := by unfold clS; simp [c]
        rw [if_neg c]
        rw [e2] at fin
        exact fin
  exact hl bgf 0 (Nat.zero_le _) (by unfold bgf; omega) I1 Sm.rf (fun s hs => by omega)
def ML (B : Bd) (I : HI) : Prop := MB B I ∧ LD B (ftK (bW B) 0) (ftA (bW B) 0) (ftB (bW B) 0) I
theorem ML.keep {B : Bd} {I I' : HI} (h : ML B I) (a : Ag rdMB I I') (b : Ag rdLd I I') : ML B I' := ⟨h.1.keep a, h.2.keep b⟩
theorem allML {α : Type} {B : Bd} (hB : OkB B) (hW : bW B ≤ 7) {I : HI} {J : HJ} (hM : MB B I) (hMo : CMod I) {G : HI → HJ → Option α} {Q : α → Prop} (k : ∀ I3 J4, ML B I3 → CMod I3 → faQ B I3 J4 → F_X12_settings I3 J4 = some (nI (3 ^ bW B)) → Sm wi_X12_findAll I I3 → Sm wj_X12_findAll J J4 → Ok (G I3 J4) Q) : Ok (cl (F_X12_findAll I J) fun _ I3 J4 => G I3 J4) Q := by
  refine Ok.call ((X12_findAllL hB hW I J hM hMo).fo (fr_X12_findAll I J)) (fun r I3 J4 _ hP => ?_)
  obtain ⟨⟨q1, qL⟩, q3, q4⟩ := hP
  simp only at q1 qL q3 q4
  have hM3 : MB B I3 := hM.keep (Ag.of q3 (by decide))
  exact k I3 J4 ⟨hM3, qL⟩ (hMo.keep (Ag.of q3 (by decide))) q1 (X12_settings _ hW hM3.1) q3 q4
theorem X12_turnsL {B : Bd} (hB : OkB B) (hW : bW B ≤ 7) {p : Int64} (hok : okLp (bL B) p) (hp12 : pc p ≤ 12) (I : HI) (J : HJ) (hM : MB B I) (hMo : CMod I) : Ok (F_X12_findTurns p I J) (fun q => mbM (lsP p 60) q.2.1 ∧ cvM B p (3 ^ bW B) q.2.1 ∧ faQ B q.2.1 q.2.2 ∧ ML B q.2.1 ∧ CMod q.2.1) := by
  have hp := p3_le hW
  have h60 := hB.2.2.1
  have hlen : ∀ k, k ≤ 60 → (lsP p k).length ≤ 12 := fun k hk => by
    rw [lsP_len]
    have : pcP k (bt p) ≤ pcP 64 (bt p) := pc_mono (by omega)
    have : pcP 64 (bt p) = pc p := rfl
    omega
  unfold F_X12_findTurns
  refine allML hB hW hM hMo (fun I3 J4 hM3 hMo3 hfa hst t1 t2 => ?_)
  refine Ok.lbv ?_
  have l2 : ∀ I, ML B I → CMod I → faQ B I J4 → mbM (lsP p 60) I → Ok (F_X12_findTurns_L58 p J4 bgf (0 : Int32) I) (fun q => mbM (lsP p 60) q.2.1 ∧ cvM B p (3 ^ bW B) q.2.1 ∧ faQ B q.2.1 q.2.2 ∧ ML B q.2.1 ∧ CMod q.2.1) := by
    intro I hM hMo hf hm
    have hl : ∀ K s, s ≤ 3 ^ bW B → 3 ^ bW B - s < K → ∀ I, ML B I → CMod I → faQ B I J4 → mbM (lsP p 60) I → cvM B p s I → Ok (F_X12_findTurns_L58 p J4 K (nI s) I) (fun q => mbM (lsP p 60) q.2.1 ∧ cvM B p (3 ^ bW B) q.2.1 ∧ faQ B q.2.1 q.2.2 ∧ ML B q.2.1 ∧ CMod q.2.1) := by
      refine up ?_ ?_
      · intro K I hM hMo hf hm hc
        rw [F_X12_findTurns_L58]
        exact Ok.cpe (X12_settings _ hW hM.1.1) (Ok.t (by rw [n_le] <;> omega) (Ok.mk ⟨hm, hc, hf, hM, hMo⟩))
      · intro K s hs ih I hM hMo hf hm hc
        rw [F_X12_findTurns_L58]
        refine Ok.cpe (X12_settings _ hW hM.1.1) (Ok.f (by rw [n_le] <;> omega) (Ok.bxe (by omega) (by omega) (Ok.lbv ?_)))
        rw [n_cl (by omega), nI_1]
        have s0 : Sm [(m_shownBy, none)] I (ui I m_shownBy s 0) := Sm.mi rfl Sm.rf
        have next : ∀ I2, Sm [(m_shownBy, none)] I I2 → (∀ s', s' ≠ s → I2 m_shownBy s' = I m_shownBy s') → I2 m_shownBy s = cvI B p s → Ok (F_X12_findTurns_L58 p J4 K (nI (s + 1)) I2) (fun q => mbM (lsP p 60) q.2.1 ∧ cvM B p (3 ^ bW B) q.2.1 ∧ faQ B q.2.1 q.2.2 ∧ ML B q.2.1 ∧ CMod q.2.1) := by
          intro I2 a1 a2 a3
          refine ih I2 (hM.keep (Ag.of a1 (by decide)) (Ag.of a1 (by decide))) (hMo.keep (Ag.of a1 (by decide))) (hf.ki (Ag.of a1 (by decide))) ⟨by rw [a1 _ _ rfl]; exact hm.1, fun k hk => by rw [a1 _ _ rfl]; exact hm.2 k hk⟩ (fun s' hs' => ?_)
          by_cases c : s' = s
          · rw [c]; exact a3
          · rw [a2 s' c]; exact hc s' (by omega)
        have hm0 : mbM (lsP p 60) (ui I m_shownBy s 0) := ⟨by rw [s0 _ _ rfl]; exact hm.1, fun k hk => by rw [s0 _ _ rfl]; exact hm.2 k hk⟩
        have hf0 : faQ B (ui I m_shownBy s 0) J4 := hf.ki (Ag.of s0 (by decide))
        cases ht : isT B p s with
        | false =>
          refine X12_turns_76n hW hs ht hf0 (next _ s0 (fun s' hs' => by rw [ui_j hs']) ?_) 999999
          rw [ui_r]; unfold cvI; rw [ht]; rfl
        | true =>
          refine X12_turns_76 hW (hlen 60 (by omega)) (fun k hk => lsP_lt hk) hs ht (ui I m_shownBy s 0) (fun I2 a1 a2 a3 => next I2 ?_ ?_ ?_) hm0 hf0 bgf 0 (Nat.zero_le _) (by have := hlen 60 (by omega); unfold bgf; omega) _ Sm.rf (fun _ _ => rfl) (by rw [ui_r]; rfl)
          · exact Sm.tr (by decide) s0 a1
          · intro s' hs'; rw [a2 s' hs', ui_j hs']
          · rw [a3]; unfold cvI; rw [ht]; rfl
    exact hl bgf 0 (Nat.zero_le _) (by unfold bgf; omega) I hM hMo hf hm (fun s hs => by omega)
  have l1 : ∀ K k, k ≤ bL B → bL B - k < K → ∀ I, ML B I → CMod I → faQ B I J4 → mbM (lsP p k) I → Ok (F_X12_findTurns_L11 p J4 (fun (I14 : HI) => F_X12_findTurns_L58 p J4 bgf (0 : Int32) I14) K (nI k) I) (fun q => mbM (lsP p 60) q.2.1 ∧ cvM B p (3 ^ bW B) q.2.1 ∧ faQ B q.2.1 q.2.2 ∧ ML B q.2.1 ∧ CMod q.2.1) := by
    refine up ?_ ?_
    · intro K I hM hMo hf hm
      rw [F_X12_findTurns_L11]
      refine Ok.t (by rw [hM.1.2.1, n_le] <;> omega) (l2 I hM hMo hf ?_)
      rw [lsP_ok hok h60]; exact hm
    · intro K k hk ih I hM hMo hf hm
      have hk12 := hlen (k + 1) (by omega)
      rw [F_X12_findTurns_L11]
      refine Ok.f (by rw [hM.1.2.1, n_le] <;> omega) (Ok.cpe (t_has (by omega)) (Ok.lbv ?_))
      rw [nI_1]
      rw [lsP_s] at ih hk12
      cases hb : bt p k with
      | false =>
        rw [hb] at ih
        exact Ok.t (by rfl) (ih I hM hMo hf hm)
      | true =>
        rw [hb] at ih hk12
        simp only [if_true, List.length_append, List.length_singleton] at hk12
        rw [hm.1]
        refine Ok.f (by decide) (Ok.bxe (by omega) (by omega) (Ok.lbv (Ok.lbv ?_)))
        have s0 : Sm [(m_member, none), (m_self, some f_Model_members)] I (ui (ui I m_member (lsP p k).length (nI k)) m_self f_Model_members (nI ((lsP p k).length + 1))) := Sm.mi rfl (Sm.mi rfl Sm.rf)
        rw [n_cl (by omega), ui_c (show m_self ≠ m_member by decide), hm.1, nI_1]
        refine ih _ (hM.keep (Ag.of s0 (by decide)) (Ag.of s0 (by decide))) (hMo.keep (Ag.of s0 (by decide))) (hf.ki (Ag.of s0 (by decide))) ⟨by rw [ui_r]; simp, fun j hj => ?_⟩
        rw [ui_c (by decide), ui_s]
        show _ = nI ((lsP p k ++ [k]).getD j 0)
        rw [getD_ap1]
        by_cases d : j = (lsP p k).length
        · rw [if_pos d, if_pos d]
        · rw [if_neg d, if_neg d]; exact hm.2 j (mb_add (cs := 0) hj d)
  have s0 : Sm [(m_self, some f_Model_members)] I3 (ui I3 m_self f_Model_members 0) := Sm.mi rfl Sm.rf
  exact l1 bgf 0 (Nat.zero_le _) (by unfold bgf; omega) _ (hM3.keep (Ag.of s0 (by decide)) (Ag.of s0 (by decide))) (hMo3.keep (Ag.of s0 (by decide))) (hfa.ki (Ag.of s0 (by decide))) ⟨by rw [ui_r]; rfl, fun k hk => by cases hk⟩
theorem X12_findPartedL {B : Bd} (hB : OkB B) (hW : bW B ≤ 7) {p : Int64} (hok : okLp (bL B) p) (hp12 : pc p ≤ 12) (I : HI) (J : HJ) (hM : MB B I) (hMo : CMod I) : Ok (F_X12_findParted p I J) (fun q => ML B q.2.1 ∧ CMod q.2.1 ∧ mbM (lsP p 60) q.2.1 ∧ faQ B q.2.1 q.2.2 ∧ ((prT B p < 99 ∧ q.1 = 1 ∧ tnM (prL B p) q.2.1) ∨ (¬ prT B p < 99 ∧ q.1 = 0))) := by
  have hN := p3_le hW
  have hC := lsP_12 hp12
  have h12 : (2 : Nat) ^ (lsP p 60).length ≤ 2 ^ 12 := Nat.pow_le_pow_right (by omega) hC
  have h20 : 0 < (2 : Nat) ^ (lsP p 60).length := Nat.pow_pos (by omega)
  have h3 : 0 < 3 ^ bW B := Nat.pow_pos (by omega)
  unfold F_X12_findParted
  refine Ok.call (X12_turnsL hB hW hok hp12 I J hM hMo) (fun r I15 J16 _ hP => ?_)
  obtain ⟨q1, q2, q3, q4, q5⟩ := hP
  simp only at q1 q2 q3 q4 q5
  refine Ok.lbv (Ok.cpe (X12_settings _ hW q4.1.1) ?_)
  rw [q1.1, show (1 : Int32) = nI 1 from rfl, shl_m hC, n_sub (by omega)]
  generalize hm : (lsP p 60).length = m at hC h12 h20
  have hlow : ∀ s, lowQ m (cvI B p s) := fun s => by rw [← hm]; exact cvI_low (by omega) s
  have hcl : ∀ s, s < 3 ^ bW B → ∃ y, y ≤ 2 ^ m - 1 ∧ cvI B p s = nI y := fun s _ => ⟨_, by have := (n_of (hlow s)).1; omega, (n_of (hlow s)).2⟩
  have done : ∀ I', Sm pmW I15 I' → ML B I' ∧ CMod I' ∧ mbM (lsP p 60) I' ∧ faQ B I' J16 := fun I' s => ⟨q4.keep (Ag.of s (by decide)) (Ag.of s (by decide)), q5.keep (Ag.of s (by decide)), ⟨by rw [s _ _ rfl]; exact q1.1, fun k hk => by rw [s _ _ rfl]; exact q1.2 k hk⟩, q3.ki (Ag.of s (by decide))⟩
  refine pm_23 (by omega) I15 (fun I20 s20 g20 => ?_) bgf 0 (Nat.zero_le _) (by unfold bgf; omega) I15 Sm.rf (fun y h => absurd h (Nat.not_lt_zero _))
  refine Ok.lbv ?_
  rw [show nI (3 ^ bW B) - nI 1 = nI (3 ^ bW B) + (-1) from Int32.sub_eq_add_neg ..]
  refine pm_49 (cv := cvI B p) (N := 3 ^ bW B) hN (by omega) hcl I15 q2 (fun I23 s23 g23 => ?_) bgf (3 ^ bW B) (by unfold bgf; omega) (Nat.le_refl _) I20 s20 (fun y hy => ⟨fun _ s' a b => by omega, fun _ => g20 y hy⟩)
  refine Ok.bxe (a := 0) (by omega) (by omega) (Ok.lbv ?_)
  have s24 : Sm pmW I15 (ui I23 m_fewest 0 0) := Sm.mi rfl s23
  refine pm_84 (cv := cvI B p) (N := 3 ^ bW B) (m := m) hN (by omega) hC (ui I23 m_fewest 0 0) ?_ (fun I32 s32 f32 k32 => ?_) bgf 0 (Nat.zero_le _) (by unfold bgf; omega) _ Sm.rf (fun y hy => ?_) rfl (fun i' h => absurd h (Nat.not_lt_zero _))
  · rw [s24 _ _ rfl, q1.1, hm]
  rotate_left
  · rw [ui_c (by decide)]; exact g23 y hy
  rw [show 2 ^ m - 1 + 1 = 2 ^ m by omega] at k32
  refine pm_182 hN hC hlow I15 (fun I37 s37 f37 => ?_) bgf 1 (by omega) (by unfold bgf; omega) (by omega) I32 (Sm.tr (by decide) s24 s32) k32 (fun y hy => ⟨0, ?_, ?_⟩)
  rotate_left
  · rw [show y = 0 by omega, f32, ui_r]; rfl
  · rw [show y = 0 by omega]; exact lsT_0 (by omega)
  refine Ok.bxe (by omega) (by omega) ?_
  obtain ⟨v, v1, v2⟩ := f37 (2 ^ m - 1) (by omega)
  have hT : prT B p = lsV (cvI B p) (3 ^ bW B) (nI (2 ^ m - 1)) := by unfold prT; rw [hm]
  have hL : prL B p = (chS (lsV (cvI B p) (3 ^ bW B)) (cvI B p) (nI (2 ^ m - 1)) (3 ^ bW B)).2 := by unfold prL; rw [hm]
  rw [n_cl (by omega), v1]
  rcases lsT_big v2 with ⟨e1, e2⟩ | ⟨e1, e2⟩
  · refine Ok.t (show nI v < (1000000 : Int32) from (by rw [n_lt (by omega) (by omega)]; omega : nI v < nI 1000000)) (Ok.lbv ?_)
    have s38 : Sm pmW I15 (ui I37 m_self f_Model_turns 0) := Sm.mi rfl s37
    refine (pm_300 (cv := cvI B p) (N := 3 ^ bW B) (J := J16) hN hC (k0 := 2 ^ m - 1) (by omega) (by omega) (ui I37 m_self f_Model_turns 0) (fun s hs => ?_) (fun y hy => ?_) bgf 0 (Nat.zero_le _) (by unfold bgf; omega) _ Sm.rf ⟨by rw [ui_r]; rfl, fun k h => by cases h⟩).mono (fun q hq => ?_)
    · rw [s38 _ _ rfl]; exact q2 s hs
    · rw [ui_c (by decide)]; exact f37 y hy
    · obtain ⟨a1, a2, a3, a4⟩ := hq
      obtain ⟨d1, d2, d3, d4⟩ := done q.2.1 (Sm.tr (by decide) s38 a3)
      exact ⟨d1, d2, d3, by rw [a2]; exact d4, Or.inl ⟨by omega, a1, by rw [hL]; exact a4⟩⟩
  · refine Ok.f (show ¬ nI v < (1000000 : Int32) from (by rw [n_lt (by omega) (by omega)]; omega : ¬ nI v < nI 1000000)) ?_
    obtain ⟨d1, d2, d3, d4⟩ := done I37 s37
    exact Ok.mk ⟨d1, d2, d3, d4, Or.inr ⟨by omega, rfl⟩⟩

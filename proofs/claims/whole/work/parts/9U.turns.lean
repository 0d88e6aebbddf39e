/-! LAYER 2: parting, opened by the reference -/
theorem faQ.ki {B : Bd} {I I' : HI} {J : HJ} (h : faQ B I J) (a : Ag [(m_isGhostly, none)] I I') : faQ B I' J := fun s hs => ⟨(h s hs).1, by rw [a _ _ rfl]; exact (h s hs).2⟩
theorem X12_turns_76 {B : Bd} (hW : bW B ≤ 7) {p : Int64} {C : List Nat} (hC : C.length ≤ 12) (h60 : ∀ k, k < C.length → C.getD k 0 < 60) {s : Nat} (hs : s < 3 ^ bW B) (ht : isT B p s = true) (I0 : HI) {J : HJ} {kx : HI → Option (Unit × HI × HJ)} {Q : Unit × HI × HJ → Prop} (hx : ∀ I, Sm [(m_shownBy, none)] I0 I → (∀ s', s' ≠ s → I m_shownBy s' = I0 m_shownBy s') → I m_shownBy s = mskI C.length (fun i => bt (gS B 0 s) (C.getD i 0)) → Ok (kx I) Q) (hM : mbM C I0) (hf : faQ B I0 J) : ∀ K k, k ≤ C.length → C.length - k < K → ∀ I, Sm [(m_shownBy, none)] I0 I → (∀ s', s' ≠ s → I m_shownBy s' = I0 m_shownBy s') → I m_shownBy s = mskI k (fun i => bt (gS B 0 s) (C.getD i 0)) → Ok (F_X12_findTurns_L76 p (nI s) J kx K (nI k) I) Q := by
  have hp := p3_le hW
  refine up ?_ ?_
  · intro K I h1 h2 h3
    rw [F_X12_findTurns_L76]
    exact Ok.t (by rw [h1 _ _ rfl, hM.1, n_le] <;> omega) (hx I h1 h2 h3)
  · intro K k hk ih I h1 h2 h3
    have hlt := h60 k hk
    have hfI : faQ B I J := hf.ki (Ag.of h1 (by decide))
    rw [F_X12_findTurns_L76]
    refine Ok.f (by rw [h1 _ _ rfl, hM.1, n_le] <;> omega) (Ok.cpe (X12_turn hW hfI p s hs) ?_)
    rw [ht]
    refine Ok.f (by decide) (Ok.bxe (by omega) (by omega) (Ok.bxe (by omega) (by omega) (Ok.bxe (by omega) (by omega) ?_)))
    rw [n_cl (by omega), n_cl (by omega), (hfI s hs).1, h1 m_member _ rfl, hM.2 k hk]
    refine Ok.cpe (t_has (by omega)) (Ok.lbv ?_)
    have body : ∀ y, mskI k (fun i => bt (gS B 0 s) (C.getD i 0)) ||| y = mskI (k + 1) (fun i => bt (gS B 0 s) (C.getD i 0)) → Ok (bx (nI s) 2187 <| lb (ui I m_shownBy (Int32.toNatClampNeg (nI s)) (I m_shownBy s ||| y)) fun I23 => F_X12_findTurns_L76 p (nI s) J kx K (nI k + 1) I23) Q := by
      intro y hy
      refine Ok.bxe (by omega) (by omega) (Ok.lbv ?_)
      rw [n_cl (by omega), nI_1, h3, hy]
      refine ih _ (Sm.mi rfl h1) (fun s' hs' => ?_) (by rw [ui_r])
      rw [ui_j hs']; exact h2 s' hs'
    cases hb : bt (gS B 0 s) (C.getD k 0) with
    | false => exact Ok.t (by rfl) (body 0 (by rw [mskI_s, hb]; exact Int32.or_zero))
    | true => exact Ok.f (by decide) (body _ (by rw [mskI_s, hb]; rfl))
theorem X12_turns_76n {B : Bd} (hW : bW B ≤ 7) {p : Int64} {s : Nat} (hs : s < 3 ^ bW B) (ht : isT B p s = false) {I : HI} {J : HJ} (hf : faQ B I J) {kx : HI → Option (Unit × HI × HJ)} {Q : Unit × HI × HJ → Prop} (hx : Ok (kx I) Q) (K : Nat) : Ok (F_X12_findTurns_L76 p (nI s) J kx (K + 1) 0 I) Q := by
  rw [F_X12_findTurns_L76]
  refine Ok.ite (fun _ => hx) (fun _ => Ok.cpe (X12_turn hW hf p s hs) ?_)
  rw [ht]
  exact Ok.t rfl hx
theorem X12_turns {B : Bd} (hB : OkB B) (hW : bW B ≤ 7) {p : Int64} (hok : okLp (bL B) p) (hp12 : pc p ≤ 12) (I : HI) (J : HJ) (hM : MB B I) (hMo : CMod I) : Ok (F_X12_findTurns p I J) (fun q => mbM (lsP p 60) q.2.1 ∧ cvM B p (3 ^ bW B) q.2.1 ∧ faQ B q.2.1 q.2.2 ∧ MB B q.2.1 ∧ CMod q.2.1) := by
  have hp := p3_le hW
  have h60 := hB.2.2.1
  have hlen : ∀ k, k ≤ 60 → (lsP p k).length ≤ 12 := fun k hk => by
    rw [lsP_len]
    have : pcP k (bt p) ≤ pcP 64 (bt p) := pc_mono (by omega)
    have : pcP 64 (bt p) = pc p := rfl
    omega
  unfold F_X12_findTurns
  refine allM hB hW hM hMo (fun I3 J4 hM3 hMo3 hfa hst t1 t2 => ?_)
  refine Ok.lbv ?_
  have l2 : ∀ I, MB B I → CMod I → faQ B I J4 → mbM (lsP p 60) I → Ok (F_X12_findTurns_L58 p J4 bgf (0 : Int32) I) (fun q => mbM (lsP p 60) q.2.1 ∧ cvM B p (3 ^ bW B) q.2.1 ∧ faQ B q.2.1 q.2.2 ∧ MB B q.2.1 ∧ CMod q.2.1) := by
    intro I hM hMo hf hm
    have hl : ∀ K s, s ≤ 3 ^ bW B → 3 ^ bW B - s < K → ∀ I, MB B I → CMod I → faQ B I J4 → mbM (lsP p 60) I → cvM B p s I → Ok (F_X12_findTurns_L58 p J4 K (nI s) I) (fun q => mbM (lsP p 60) q.2.1 ∧ cvM B p (3 ^ bW B) q.2.1 ∧ faQ B q.2.1 q.2.2 ∧ MB B q.2.1 ∧ CMod q.2.1) := by
      refine up ?_ ?_
      · intro K I hM hMo hf hm hc
        rw [F_X12_findTurns_L58]
        exact Ok.cpe (X12_settings _ hW hM.1) (Ok.t (by rw [n_le] <;> omega) (Ok.mk ⟨hm, hc, hf, hM, hMo⟩))
      · intro K s hs ih I hM hMo hf hm hc
        rw [F_X12_findTurns_L58]
        refine Ok.cpe (X12_settings _ hW hM.1) (Ok.f (by rw [n_le] <;> omega) (Ok.bxe (by omega) (by omega) (Ok.lbv ?_)))
        rw [n_cl (by omega), nI_1]
        have s0 : Sm [(m_shownBy, none)] I (ui I m_shownBy s 0) := Sm.mi rfl Sm.rf
        have next : ∀ I2, Sm [(m_shownBy, none)] I I2 → (∀ s', s' ≠ s → I2 m_shownBy s' = I m_shownBy s') → I2 m_shownBy s = cvI B p s → Ok (F_X12_findTurns_L58 p J4 K (nI (s + 1)) I2) (fun q => mbM (lsP p 60) q.2.1 ∧ cvM B p (3 ^ bW B) q.2.1 ∧ faQ B q.2.1 q.2.2 ∧ MB B q.2.1 ∧ CMod q.2.1) := by
          intro I2 a1 a2 a3
          refine ih I2 (hM.keep (Ag.of a1 (by decide))) (hMo.keep (Ag.of a1 (by decide))) (hf.ki (Ag.of a1 (by decide))) ⟨by rw [a1 _ _ rfl]; exact hm.1, fun k hk => by rw [a1 _ _ rfl]; exact hm.2 k hk⟩ (fun s' hs' => ?_)
          by_cases c : s' = s
          · rw [c]; exact a3
          · rw [a2 s' c]; exact hc s' (by omega)
        have hm0 : mbM (lsP p 60) (ui I m_shownBy s 0) := ⟨by rw [s0 _ _ rfl]; exact hm.1, fun k hk => by rw [s0 _ _ rfl]; exact hm.2 k hk⟩
        have hf0 : faQ B (ui I m_shownBy s 0) J4 := hf.ki (Ag.of s0 (by decide))
        cases ht : isT B p s with
        | false =>
          refine X12_turns_76n hW hs ht hf0 (next _ s0 (fun s' hs' => by rw [ui_j hs']) ?_) 999999
          rw [ui_r]; unfold cvI; rw [ht]; rfl
        | true =>
          refine X12_turns_76 hW (hlen 60 (by omega)) (fun k hk => lsP_lt hk) hs ht (ui I m_shownBy s 0) (fun I2 a1 a2 a3 => next I2 ?_ ?_ ?_) hm0 hf0 bgf 0 (Nat.zero_le _) (by have := hlen 60 (by omega); unfold bgf; omega) _ Sm.rf (fun _ _ => rfl) (by rw [ui_r]; rfl)
          · exact Sm.tr (by decide) s0 a1
          · intro s' hs'; rw [a2 s' hs', ui_j hs']
          · rw [a3]; unfold cvI; rw [ht]; rfl
    exact hl bgf 0 (Nat.zero_le _) (by unfold bgf; omega) I hM hMo hf hm (fun s hs => by omega)
  have l1 : ∀ K k, k ≤ bL B → bL B - k < K → ∀ I, MB B I → CMod I → faQ B I J4 → mbM (lsP p k) I → Ok (F_X12_findTurns_L11 p J4 (fun (I14 : HI) => F_X12_findTurns_L58 p J4 bgf (0 : Int32) I14) K (nI k) I) (fun q => mbM (lsP p 60) q.2.1 ∧ cvM B p (3 ^ bW B) q.2.1 ∧ faQ B q.2.1 q.2.2 ∧ MB B q.2.1 ∧ CMod q.2.1) := by
    refine up ?_ ?_
    · intro K I hM hMo hf hm
      rw [F_X12_findTurns_L11]
      refine Ok.t (by rw [hM.2.1, n_le] <;> omega) (l2 I hM hMo hf ?_)
      rw [lsP_ok hok h60]; exact hm
    · intro K k hk ih I hM hMo hf hm
      have hk12 := hlen (k + 1) (by omega)
      rw [F_X12_findTurns_L11]
      refine Ok.f (by rw [hM.2.1, n_le] <;> omega) (Ok.cpe (t_has (by omega)) (Ok.lbv ?_))
      rw [nI_1]
      rw [lsP_s] at ih hk12
      cases hb : bt p k with
      | false =>
        rw [hb] at ih
        exact Ok.t (by rfl) (ih I hM hMo hf hm)
      | true =>
        rw [hb] at ih hk12
        simp only [if_true, List.length_append, List.length_singleton] at hk12
        rw [hm.1]
        refine Ok.f (by decide) (Ok.bxe (by omega) (by omega) (Ok.lbv (Ok.lbv ?_)))
        have s0 : Sm [(m_member, none), (m_self, some f_Model_members)] I (ui (ui I m_member (lsP p k).length (nI k)) m_self f_Model_members (nI ((lsP p k).length + 1))) := Sm.mi rfl (Sm.mi rfl Sm.rf)
        rw [n_cl (by omega), ui_c (show m_self ≠ m_member by decide), hm.1, nI_1]
        refine ih _ (hM.keep (Ag.of s0 (by decide))) (hMo.keep (Ag.of s0 (by decide))) (hf.ki (Ag.of s0 (by decide))) ⟨by rw [ui_r]; simp, fun j hj => ?_⟩
        rw [ui_c (by decide), ui_s]
        show _ = nI ((lsP p k ++ [k]).getD j 0)
        rw [getD_ap1]
        by_cases d : j = (lsP p k).length
        · rw [if_pos d, if_pos d]
        · rw [if_neg d, if_neg d]; exact hm.2 j (mb_add (cs := 0) hj d)
  have s0 : Sm [(m_self, some f_Model_members)] I3 (ui I3 m_self f_Model_members 0) := Sm.mi rfl Sm.rf
  exact l1 bgf 0 (Nat.zero_le _) (by unfold bgf; omega) _ (hM3.keep (Ag.of s0 (by decide))) (hMo3.keep (Ag.of s0 (by decide))) (hfa.ki (Ag.of s0 (by decide))) ⟨by rw [ui_r]; rfl, fun k hk => by cases hk⟩

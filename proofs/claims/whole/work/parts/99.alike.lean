/-! LAYER 2: searching calls: alike, hidden, tells -/
theorem ptF_l0 {B : Bd} (hB : OkB B) {f : Nat} (hf : f < nF B) {h l : Nat → Bool} (hd : okS h l) (hl : ∀ w, l w = false) : ptF B f h l = [] := by
  cases hc : cfl (ftK (bW B) f) (ftA (bW B) f) (ftB (bW B) f) h l with
  | true => exact ptF_c hc
  | false =>
    rw [ptF_n hc]
    have hE := EO_f hB hf hd hc
    unfold paS
    rw [List.flatMap_eq_nil_iff]
    intro w _
    rw [wk_no hE (fun v _ => by
      unfold hiE; repeat' split
      all_goals simp [hl])]
    simp
theorem X7_glowBy {B : Bd} (hB : OkB B) {f s : Nat} (hf : f < nF B) (hs : s < 3 ^ bW B) (I : HI) (J : HJ) (hX : XB B I J) (hR : rfQ B I J) : Ok (F_X7_glowBy (nI f) (nI s) I J) (fun q => q.1 = gS B f s ∧ XB B q.2.1 q.2.2 ∧ rfQ B q.2.1 q.2.2) := by
  have hp := p3_le hR.1.1
  have hn := nF_le hB
  have hok := wr_ok (bW B) s hB.2.1
  unfold F_X7_glowBy
  by_cases c : f = 0
  · subst c
    refine Ok.t rfl (Ok.bxe (by omega) (by omega) (Ok.mk ⟨?_, hX, hR⟩))
    dsimp only; rw [n_cl (by omega)]; exact (hR.1.2.2.1 s hs).1
  · refine Ok.f (show ¬ nI f = (0 : Int32) from fun h0 => by
      have h0' : nI f = nI 0 := h0
      rw [n_eq (by omega) (by omega)] at h0'; exact c h0') ?_
    refine Ok.bxe (by omega) (by omega) ?_
    rw [n_cl (by omega), (hR.1.2.2.2 s hs).1, (hR.1.2.2.2 s hs).2]
    refine Ok.lbv (Ok.bxe (by omega) (by omega) (Ok.lbv ?_))
    refine Ok.ite (fun c1 => Ok.mk ⟨?_, hX, hR⟩) (fun c1 => Ok.ite (fun c2 => Ok.mk ⟨?_, hX, hR⟩) (fun c2 => ?_))
    · have c1' : wr (bW B) 1 s = nI 0 := c1
      dsimp only; unfold gS gwF; rw [c1', ptF_h0 (fun w => bi_z w), gw_nil B hB]; rfl
    · have c2' : wr (bW B) 2 s = nI 0 := c2
      dsimp only; unfold gS gwF
      rw [ptF_l0 hB hf hok.1 (fun w => by rw [c2']; exact bi_z w), gw_nil B hB]; rfl
    · rw [cl_some]
      refine ((X7_glowWithF hB f hf _ _ hok.1 I J hX hR.2.2).fo (fr_X7_glowWith _ _ _ I J)).mono (fun q hq => ?_)
      obtain ⟨⟨q1, q2⟩, q3, q4⟩ := hq
      exact ⟨q1, hX.keep (Ag.of q3 (by decide)) (Ag.of q4 (by decide)), hR.1.keep (Ag.of q3 (by decide)) (Ag.of q4 (by decide)), by rw [q3 _ _ rfl]; exact hR.2.1, q2⟩
def df (B : Bd) (a b s : Nat) : Bool := !decide (gS B a s = gS B b s)
def fuI : Option Nat → Int32
  | none => -nI 1
  | some s => nI s
def isF (p : Nat → Bool) (st N : Nat) (o : Option Nat) : Prop := (∀ s, o = some s → st ≤ s ∧ s < N ∧ p s = true ∧ ∀ j, st ≤ j → j < s → p j = false) ∧ (o = none → ∀ j, st ≤ j → j < N → p j = false)
theorem isF_0 {p : Nat → Bool} {N : Nat} {o : Option Nat} (h : isF p 0 N o) : o = fsS p N := by
  cases o with
  | none => exact (fsS_none.mpr (fun j hj => h.2 rfl j (Nat.zero_le _) hj)).symm
  | some s =>
    obtain ⟨_, g2, g3, g4⟩ := h.1 s rfl
    exact (fsS_some.mpr ⟨g2, g3, fun j hj => g4 j (Nat.zero_le _) hj⟩).symm
def fpQ (B : Bd) (a b st : Nat) (q : Int32 × HI × HJ) : Prop := ∃ o, q.1 = fuI o ∧ isF (df B a b) st (3 ^ bW B) o ∧ XB B q.2.1 q.2.2 ∧ rfQ B q.2.1 q.2.2
theorem X7_parting {B : Bd} (hB : OkB B) {a b : Nat} (ha : a < nF B) (hb : b < nF B) (st : Nat) (hst : st ≤ 3 ^ bW B) (I : HI) (J : HJ) (hX : XB B I J) (hR : rfQ B I J) : Ok (F_X7_firstParting (nI a) (nI b) (nI st) I J) (fpQ B a b st) := by
  have hp := p3_le hR.1.1
  have hn := nF_le hB
  unfold F_X7_firstParting
  have hl : ∀ K k, k ≤ 3 ^ bW B → 3 ^ bW B - k < K → st ≤ k → ∀ I J, XB B I J → rfQ B I J → (∀ j, st ≤ j → j < k → df B a b j = false) → Ok (F_X7_firstParting_L3 (nI a) (nI b) K (nI k) I J) (fpQ B a b st) := by
    refine up ?_ ?_
    · intro K _ I J hX hR hd
      rw [F_X7_firstParting_L3]
      exact Ok.t (by rw [hR.1.2.1, n_le] <;> omega) (Ok.mk ⟨none, rfl, ⟨(fun s h => by cases h), fun _ => hd⟩, hX, hR⟩)
    · intro K k hk ih hsk I J hX hR hd
      rw [F_X7_firstParting_L3]
      refine Ok.f (by rw [hR.1.2.1, n_le] <;> omega) (Ok.ite (fun c => Ok.mk ⟨none, rfl, ⟨(fun s h => by cases h), fun _ j _ _ => ?_⟩, hX, hR⟩) (fun c => ?_))
      · rw [n_eq (by omega) (by omega)] at c
        unfold df; rw [c]; simp
      · refine Ok.call (X7_glowBy hB ha hk I J hX hR) (fun r1 I2 J2 _ hP => ?_)
        obtain ⟨q1, q2, q3⟩ := hP
        refine Ok.call (X7_glowBy hB hb hk I2 J2 q2 q3) (fun r2 I3 J3 _ hP => ?_)
        obtain ⟨p1, p2, p3⟩ := hP
        simp only at q1 p1
        rw [q1, p1, nI_1]
        by_cases e : gS B a k = gS B b k
        · refine Ok.t (show lg_cmp _ _ = 0 from lc0.mpr e) (ih (by omega) I3 J3 p2 p3 (fun j h1 h2 => ?_))
          by_cases cj : j = k
          · rw [cj]; unfold df; simp [e]
          · exact hd j h1 (by omega)
        · refine Ok.f (show ¬ lg_cmp _ _ = 0 from fun h0 => e (lc0.mp h0)) (Ok.mk ⟨some k, rfl, ⟨fun s hs => ?_, (fun h => by cases h)⟩, p2, p3⟩)
          cases hs
          exact ⟨hsk, hk, by unfold df; simp [e], hd⟩
  exact hl bgf st hst (by unfold bgf; omega) (Nat.le_refl _) I J hX hR (fun j h1 h2 => by omega)
/-- the reference has both rows -/
def glQ (B : Bd) (a b : Nat) (J : HJ) : Prop := ∀ s, s < 3 ^ bW B → J m_glow s = gS B a s ∧ J m_glowToo s = gS B b s
theorem X12_unlike {B : Bd} (hW : bW B ≤ 7) {a b : Nat} {I : HI} {J : HJ} (hst : F_X12_settings I J = some (nI (3 ^ bW B))) (hg : glQ B a b J) : F_X12_firstUnlike I J = some (fuI (fsS (df B a b) (3 ^ bW B))) := by
  have hp := p3_le hW
  unfold F_X12_firstUnlike
  have hl : ∀ K k, k ≤ 3 ^ bW B → 3 ^ bW B - k < K → (∀ j, j < k → df B a b j = false) → F_X12_firstUnlike_L2 I J K (nI k) = some (fuI (fsS (df B a b) (3 ^ bW B))) := by
    refine up ?_ ?_
    · intro K hd
      rw [F_X12_firstUnlike_L2, hst]
      simp only [cp, Option.bind_some]
      rw [if_pos (by rw [n_le] <;> omega), fsS_none.mpr hd]; rfl
    · intro K k hk ih hd
      rw [F_X12_firstUnlike_L2, hst]
      simp only [cp, Option.bind_some]
      rw [if_neg (by rw [n_le] <;> omega)]
      obtain ⟨g1, g2⟩ := hg k hk
      simp (disch := omega) only [n_bx, n_cl, g1, g2, lit32, cm0, nI_1, nI_add]
      by_cases e : gS B a k = gS B b k
      · rw [if_pos e]
        refine ih (fun j hj => ?_)
        by_cases cj : j = k
        · rw [cj]; unfold df; simp [e]
        · exact hd j (by omega)
      · rw [if_neg e, fsS_some.mpr ⟨hk, by unfold df; simp [e], hd⟩]; rfl
  exact hl bgf 0 (Nat.zero_le _) (by unfold bgf; omega) (fun j hj => by omega)
theorem glow2 {α : Type} {B : Bd} (hB : OkB B) (hW : bW B ≤ 7) {a b : Nat} (ha : a < nF B) (hb : b < nF B) {I : HI} {J : HJ} (hM : MB B I) (hMo : CMod I) {G : HI → HJ → Option α} {Q : α → Prop} (k : ∀ I3 J4, MB B I3 → CMod I3 → glQ B a b J4 → F_X12_settings I3 J4 = some (nI (3 ^ bW B)) → Sm (wi_X12_findGlow_99 ++ wi_X12_findGlow_113) I I3 → Sm (wj_X12_findGlow_99 ++ wj_X12_findGlow_113) J J4 → Ok (G I3 J4) Q) : Ok (cl (F_X12_findGlow_99 (nI a) I J) fun _ I3 J4 => cl (F_X12_findGlow_113 (nI b) I3 J4) fun _ I5 J6 => G I5 J6) Q := by
  refine Ok.call ((X12_fg_97 hB hW ha I J hM hMo).fo (fr_X12_findGlow_99 _ I J)) (fun r I3 J4 _ hP => ?_)
  obtain ⟨q1, q3, q4⟩ := hP
  simp only at q1 q3 q4
  have hM3 : MB B I3 := hM.keep (Ag.of q3 (by decide))
  have hMo3 : CMod I3 := hMo.keep (Ag.of q3 (by decide))
  refine Ok.call ((X12_fg_111 hB hW hb I3 J4 hM3 hMo3).fo (fr_X12_findGlow_113 _ I3 J4)) (fun r I5 J6 _ hP => ?_)
  obtain ⟨p1, p3, p4⟩ := hP
  simp only at p1 p3 p4
  have hM5 : MB B I5 := hM3.keep (Ag.of p3 (by decide))
  refine k I5 J6 hM5 (hMo3.keep (Ag.of p3 (by decide))) (fun s hs => ⟨by rw [p4 _ _ rfl]; exact q1 s hs, p1 s hs⟩) (X12_settings _ hW hM5.1) ?_ ?_
  · exact Sm.tr (by decide) (fun c j hc => q3 c j (by
      cases hq : inW wi_X12_findGlow_99 c j with
      | false => rfl
      | true => rw [subW_in (b := wi_X12_findGlow_99 ++ wi_X12_findGlow_113) (by decide) hq] at hc; cases hc)) p3
  · exact Sm.tr (by decide) (fun c j hc => q4 c j (by
      cases hq : inW wj_X12_findGlow_99 c j with
      | false => rfl
      | true => rw [subW_in (b := wj_X12_findGlow_99 ++ wj_X12_findGlow_113) (by decide) hq] at hc; cases hc)) p4

theorem OP35 (n : Nat) (b : Bool) (I : HI) (J : HJ) (a1 a2 a3 a4 : Int32) (h : Iv (n + 1) b I J) : Op35 (Iv n) b I J a1 a2 a3 a4 := by
  obtain ⟨B, nb, h⟩ := h
  have hB := h.1
  have h60 := hB.2.2.1
  have hX := h.2.1
  have hM0 := h.2.2.1
  have hTF := h.2.2.2.2.2.2.2.2.2
  have hN := h.2.2.2.2.1

  rcases i_case a1 (nF B) (by have := nF_le hB; omega) with ⟨f, hf, rfl⟩ | ⟨hn1, _⟩
  · skip
    rcases i_case a2 (nF B) (by have := nF_le hB; omega) with ⟨g, hg, rfl⟩ | ⟨hn2, _⟩
    · skip
      by_cases hW : bW B ≤ 7
      · have hp := p3_le hW
        skip
        refine srch h (fr_X11_alike (nI f) (nI g) I J) (fun I1 J1 => fr_X12_alike (nI f) (nI g) I1 J1) (by decide) (if (fsS (df B f g) (3 ^ bW B)).isNone then 1 else 0) ((fsS (df B f g) (3 ^ bW B)).map (fun s => [Int32.toInt64 (nI s)])) ?_ ?_
        · unfold F_X11_alike
          refine Ok.cpe ((X7_has hB hX).1 ⟨f, hf, rfl⟩) (Ok.f (by decide) (Ok.cpe ((X7_has hB hX).1 ⟨g, hg, rfl⟩) (Ok.f (by decide) (openX hB hW hX hTF.1 hTF.2.1 (fun I3 J4 hX3 hR s1 s2 => ?_)))))
          refine Ok.call ((X7_parting hB hf hg 0 (Nat.zero_le _) I3 J4 hX3 hR).fo (fr_X7_firstParting _ _ _ I3 J4)) (fun r I5 J5 _ hP => ?_)
          obtain ⟨⟨o, p1, p2, p3, p4⟩, p5, p6⟩ := hP
          simp only at p1 p4 p5 p6
          have eo := isF_0 p2
          subst eo
          rw [p1]
          cases hf' : fsS (df B f g) (3 ^ bW B) with
          | none =>
            refine Ok.t rfl (Ok.mk ⟨rfl, p4.tab, p4.2.2, ?_, ?_⟩)
            · dsimp only; rw [p5 _ _ rfl, s1 _ _ rfl]
            · dsimp only; funext k; rw [p6 _ _ rfl, s2 _ _ rfl]
          | some s =>
            obtain ⟨hs, _⟩ := fsS_some.mp hf'
            refine Ok.f (show ¬ nI s = (-1 : Int32) from fun hh => (n_ne1 (by omega)).mp hh) ?_
            exact clr1 (fun I6 c1 c2 => add1 c1 (by simp) (fun I7 J7 d1 d2 d3 => Ok.mk ⟨rfl, ((p4.k1 c2 Sm.rf).k1 d2 d3).tab, ((p4.k1 c2 Sm.rf).k1 d2 d3).2.2, d1⟩))
        · intro I1 J1 hM hMo u1 u2
          have sT := th_s I1 0
          have hM2 : MB B (ui I1 m_self f_Model_thrown 0) := hM.keep (Ag.of sT (by decide))
          unfold F_X12_alike
          refine Ok.lbv (Ok.cpe ((X12_isFault hB hM2).1 ⟨f, hf, rfl⟩) (Ok.f (by decide) (Ok.cpe ((X12_isFault hB hM2).1 ⟨g, hg, rfl⟩) (Ok.f (by decide) (Ok.cpe ((X12_can hB _ _ hM2).1 hW) (Ok.f (by decide) (glow2 hB hW hf hg hM2 (hMo.keep (Ag.of sT (by decide))) (fun I3 J4 hM3 hMo3 hgl hst t1 t2 => ?_))))))))
          refine Ok.cpe (X12_unlike hW hst hgl) ?_
          cases hf' : fsS (df B f g) (3 ^ bW B) with
          | none => exact Ok.t rfl (Ok.mk ⟨rfl, hMo3, toM_2 sT t1 t2 (by decide) (by decide) (by decide)⟩)
          | some s =>
            obtain ⟨hs, _⟩ := fsS_some.mp hf'
            refine Ok.f (show ¬ nI s = (-1 : Int32) from fun hh => (n_ne1 (by omega)).mp hh) ?_
            exact clrM (J := J4) (fun I6 c1 c2 => tel1 c1 (by simp) (fun I7 J7 d1 d2 d3 => Ok.mk ⟨rfl, (hMo3.k1 c2).k1 d2, d1⟩))
      · refine srch h (fr_X11_alike (nI f) (nI g) I J) (fun I1 J1 => fr_X12_alike (nI f) (nI g) I1 J1) (by decide) (-3) none ?_ ?_
        · unfold F_X11_alike
          exact Ok.cpe ((X7_has hB hX).1 ⟨f, hf, rfl⟩) (Ok.f (by decide) (Ok.cpe ((X7_has hB hX).1 ⟨g, hg, rfl⟩) (Ok.f (by decide) (noX hB hW hX (Ok.mk ⟨rfl, hTF.1, hTF.2.1, rfl, rfl⟩)))))
        · intro I1 J1 hM hMo u1 u2
          have sT := th_s I1 0
          have hM2 : MB B (ui I1 m_self f_Model_thrown 0) := hM.keep (Ag.of sT (by decide))
          unfold F_X12_alike
          exact Ok.lbv (Ok.cpe ((X12_isFault hB hM2).1 ⟨f, hf, rfl⟩) (Ok.f (by decide) (Ok.cpe ((X12_isFault hB hM2).1 ⟨g, hg, rfl⟩) (Ok.f (by decide) (Ok.cpe ((X12_can hB _ _ hM2).2 hW) (Ok.t (by decide) (Ok.mk ⟨rfl, hMo.keep (Ag.of sT (by decide)), toM_o sT (Sm.rf (w := [])) (by decide) (by decide)⟩)))))))
    · refine ⟨-1, I, J, ui I m_self f_Model_thrown 0, J, ?_, ?_, IV_th h (th_s I 0) Sm.rf⟩
      · unfold F_X11_alike
        exact (cp1 ((X7_has hB hX).1 ⟨f, hf, rfl⟩)).trans (cp0 ((X7_has hB hX).2 hn2))
      · unfold F_X12_alike
        exact (lb_e _ _).trans ((cp1 ((X12_isFault (J := J) hB (hM0.keep (Ag.of (th_s I 0) (by decide)))).1 ⟨f, hf, rfl⟩)).trans (cp0 ((X12_isFault (J := J) hB (hM0.keep (Ag.of (th_s I 0) (by decide)))).2 hn2)))
  · refine ⟨-1, I, J, ui I m_self f_Model_thrown 0, J, ?_, ?_, IV_th h (th_s I 0) Sm.rf⟩
    · unfold F_X11_alike
      exact cp0 ((X7_has hB hX).2 hn1)
    · unfold F_X12_alike
      exact (lb_e _ _).trans (cp0 ((X12_isFault (J := J) hB (hM0.keep (Ag.of (th_s I 0) (by decide)))).2 hn1))

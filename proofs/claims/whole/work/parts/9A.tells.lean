/-! LAYER 2: searching calls: hidden, tells -/
def hdL (B : Bd) (i : Nat) : List Nat := (List.range i).filter (fun f => decide (0 < f) && (fsS (df B 0 f) (3 ^ bW B)).isNone)
theorem hdL_s (B : Bd) {i : Nat} (hi : 0 < i) : hdL B (i + 1) = if (fsS (df B 0 i) (3 ^ bW B)).isNone then hdL B i ++ [i] else hdL B i := by
  unfold hdL
  rw [List.range_succ, List.filter_append]
  cases h : (fsS (df B 0 i) (3 ^ bW B)).isNone <;> simp [h, hi]
theorem hdL_len (B : Bd) (i : Nat) : (hdL B i).length ≤ i := by
  unfold hdL
  have := List.length_filter_le (fun f => decide (0 < f) && (fsS (df B 0 f) (3 ^ bW B)).isNone) (List.range i)
  rwa [List.length_range] at this
theorem ws_add {C : List Nat} {i : Nat} (h : C.length < 8) : wsL ((C ++ [i]).take 8) = wsL (C.take 8) ++ [Int32.toInt64 (nI i)] := by
  rw [List.take_of_length_le (by simp; omega), List.take_of_length_le (by omega)]
  unfold wsL; simp
theorem ws_no {C : List Nat} {i : Nat} (h : 8 ≤ C.length) : (C ++ [i]).take 8 = C.take 8 := by
  rw [List.take_append_of_le_length h]
theorem X11_hidden_L {B : Bd} (hB : OkB B) : ∀ K i, i ≤ nF B → nF B - i < K → 0 < i → ∀ I J, XB B I J → rfQ B I J → tX (wsL ((hdL B i).take 8)) I J → Ok (F_X11_hidden_L21 K (nI (hdL B i).length) (nI i) I J) (fun q => q.1 = nI (hdL B (nF B)).length ∧ CTab B q.2.1 q.2.2 ∧ CFlow q.2.1 q.2.2 ∧ tX (wsL ((hdL B (nF B)).take 8)) q.2.1 q.2.2) := by
  have hn := nF_le hB
  refine up ?_ ?_
  · intro K _ I J hX hR ht
    rw [F_X11_hidden_L21]
    exact Ok.cpe (X7_size hB hX) (Ok.t (by rw [n_le] <;> omega) (Ok.mk ⟨rfl, hR.tab, hR.2.2, ht⟩))
  · intro K i hi ih h0 I J hX hR ht
    have hlen := hdL_len B i
    rw [F_X11_hidden_L21]
    refine Ok.cpe (X7_size hB hX) (Ok.f (by rw [n_le] <;> omega) ?_)
    refine Ok.call ((X7_parting hB (nF_0 B) hi 0 (Nat.zero_le _) I J hX hR).fo (fr_X7_firstParting _ _ _ I J)) (fun r I5 J5 _ hP => ?_)
    obtain ⟨⟨o, p1, p2, p3, p4⟩, p5, p6⟩ := hP
    simp only at p1 p3 p4 p5 p6
    have eo := isF_0 p2
    subst eo
    have ht5 : tX (wsL ((hdL B i).take 8)) I5 J5 := ht.keep (Ag.of p5 (by decide)) (Ag.of p6 (by decide))
    rw [p1]
    rw [hdL_s B h0] at ih
    refine Ok.lbv ?_
    cases hf : fsS (df B 0 i) (3 ^ bW B) with
    | none =>
      rw [hf] at ih
      simp only [Option.isNone_none, if_true, List.length_append, List.length_singleton] at ih
      refine Ok.t rfl (Ok.lbv ?_)
      rw [nI_1, nI_1]
      by_cases c : 8 ≤ (hdL B i).length
      · refine Ok.t (show (8 : Int32) ≤ nI (hdL B i).length from (by rw [n_le (by omega) (by omega)]; omega : nI 8 ≤ nI (hdL B i).length)) ?_
        exact ih (by omega) I5 J5 p3 p4 (by rw [ws_no c]; exact ht5)
      · refine Ok.f (show ¬ (8 : Int32) ≤ nI (hdL B i).length from (by rw [n_le (by omega) (by omega)]; omega : ¬ nI 8 ≤ nI (hdL B i).length)) ?_
        refine add1 ht5 (by rw [wsL_len, List.length_take]; omega) (fun I6 J6 d1 d2 d3 => ?_)
        exact ih (by omega) I6 J6 (p3.keep (Ag.of d2 (by decide)) (Ag.of d3 (by decide))) (p4.k1 d2 d3) (by rw [ws_add (by omega)]; exact d1)
    | some s =>
      rw [hf] at ih
      obtain ⟨hs, _⟩ := fsS_some.mp hf
      have hp := p3_le hR.1.1
      refine Ok.f (show ¬ nI s = (-1 : Int32) from fun hh => (n_ne1 (by omega)).mp hh) ?_
      rw [nI_1]
      exact ih (by omega) I5 J5 p3 p4 ht5
theorem X12_hidden_L {B : Bd} (hB : OkB B) (hW : bW B ≤ 7) : ∀ K i, i ≤ nF B → nF B - i < K → 0 < i → ∀ I J, MB B I → CMod I → (∀ s, s < 3 ^ bW B → J m_glow s = gS B 0 s) → tM (wsL ((hdL B i).take 8)) I J → Ok (F_X12_hidden_L33 K (nI (hdL B i).length) (nI i) I J) (fun q => q.1 = nI (hdL B (nF B)).length ∧ CMod q.2.1 ∧ tM (wsL ((hdL B (nF B)).take 8)) q.2.1 q.2.2) := by
  have hn := nF_le hB
  have hp := p3_le hW
  refine up ?_ ?_
  · intro K _ I J hM hMo _ ht
    rw [F_X12_hidden_L33]
    exact Ok.cpe (X12_faultMany hB hM) (Ok.t (by rw [n_le] <;> omega) (Ok.mk ⟨rfl, hMo, ht⟩))
  · intro K i hi ih h0 I J hM hMo hg ht
    have hlen := hdL_len B i
    rw [F_X12_hidden_L33]
    refine Ok.cpe (X12_faultMany hB hM) (Ok.f (by rw [n_le] <;> omega) ?_)
    refine Ok.call ((X12_fg_111 hB hW hi I J hM hMo).fo (fr_X12_findGlow_113 _ I J)) (fun r I5 J5 _ hP => ?_)
    obtain ⟨p1, p5, p6⟩ := hP
    simp only at p1 p5 p6
    have hM5 : MB B I5 := hM.keep (Ag.of p5 (by decide))
    have hMo5 : CMod I5 := hMo.keep (Ag.of p5 (by decide))
    have hg5 : ∀ s, s < 3 ^ bW B → J5 m_glow s = gS B 0 s := fun s hs => by rw [p6 _ _ rfl]; exact hg s hs
    have ht5 : tM (wsL ((hdL B i).take 8)) I5 J5 := ht.keep (Ag.of p5 (by decide)) (Ag.of p6 (by decide))
    refine Ok.cpe (X12_unlike hW (X12_settings _ hW hM5.1) (fun s hs => ⟨hg5 s hs, p1 s hs⟩)) ?_
    rw [hdL_s B h0] at ih
    refine Ok.lbv ?_
    cases hf : fsS (df B 0 i) (3 ^ bW B) with
    | none =>
      rw [hf] at ih
      simp only [Option.isNone_none, if_true, List.length_append, List.length_singleton] at ih
      refine Ok.t rfl (Ok.lbv ?_)
      rw [nI_1, nI_1]
      by_cases c : 8 ≤ (hdL B i).length
      · refine Ok.t (show (8 : Int32) ≤ nI (hdL B i).length from (by rw [n_le (by omega) (by omega)]; omega : nI 8 ≤ nI (hdL B i).length)) ?_
        exact ih (by omega) I5 J5 hM5 hMo5 hg5 (by rw [ws_no c]; exact ht5)
      · refine Ok.f (show ¬ (8 : Int32) ≤ nI (hdL B i).length from (by rw [n_le (by omega) (by omega)]; omega : ¬ nI 8 ≤ nI (hdL B i).length)) ?_
        refine tel1 ht5 (by rw [wsL_len, List.length_take]; omega) (fun I6 J6 d1 d2 d3 => ?_)
        exact ih (by omega) I6 J6 (hM5.keep (Ag.of d2 (by decide))) (hMo5.k1 d2) (fun s hs => by rw [d3 _ _ rfl]; exact hg5 s hs) (by rw [ws_add (by omega)]; exact d1)
    | some s =>
      rw [hf] at ih
      obtain ⟨hs, _⟩ := fsS_some.mp hf
      refine Ok.f (show ¬ nI s = (-1 : Int32) from fun hh => (n_ne1 (by omega)).mp hh) ?_
      rw [nI_1]
      exact ih (by omega) I5 J5 hM5 hMo5 hg5 ht5
theorem hdL_1 (B : Bd) : hdL B 1 = [] := by unfold hdL; simp [List.range_succ]

theorem OP34 (n : Nat) (b : Bool) (I : HI) (J : HJ) (a1 a2 a3 a4 : Int32) (h : Iv (n + 1) b I J) : Op34 (Iv n) b I J a1 a2 a3 a4 := by
  obtain ⟨B, nb, h⟩ := h
  have hB := h.1
  have h60 := hB.2.2.1
  have hX := h.2.1
  have hM0 := h.2.2.1
  have hTF := h.2.2.2.2.2.2.2.2.2
  have hN := h.2.2.2.2.1

  by_cases hW : bW B ≤ 7
  · have hp := p3_le hW
    skip
    refine srch h (fr_X11_hidden I J) (fun I1 J1 => fr_X12_hidden I1 J1) (by decide) (nI (hdL B (nF B)).length) (some (wsL ((hdL B (nF B)).take 8))) ?_ ?_
    · unfold F_X11_hidden
      refine openX hB hW hX hTF.1 hTF.2.1 (fun I3 J4 hX3 hR s1 s2 => ?_)
      have hn := nF_le hB
      refine clr1 (fun I5 c1 c2 => ?_)
      have := X11_hidden_L hB bgf 1 (nF_0 B) (by unfold bgf; omega) (by omega) I5 J4 (hX3.keep (Ag.of c2 (by decide)) (fun _ _ _ => rfl)) (hR.k1 c2 Sm.rf) (by rw [hdL_1]; exact c1)
      rw [hdL_1] at this
      exact this
    · intro I1 J1 hM hMo u1 u2
      have sT := th_s I1 0
      have hM2 : MB B (ui I1 m_self f_Model_thrown 0) := hM.keep (Ag.of sT (by decide))
      unfold F_X12_hidden
      refine Ok.lbv (Ok.cpe ((X12_can hB _ _ hM2).1 hW) (Ok.f (by decide) (?_)))
      have hn := nF_le hB
      refine Ok.call ((X12_fg_97 hB hW (nF_0 B) _ J1 hM2 (hMo.keep (Ag.of sT (by decide)))).fo (fr_X12_findGlow_99 _ _ J1)) (fun r I5 J5 _ hP => ?_)
      obtain ⟨p1, p5, p6⟩ := hP
      simp only at p1 p5 p6
      refine clrM (J := J5) (fun I6 c1 c2 => ?_)
      have := X12_hidden_L hB hW bgf 1 (nF_0 B) (by unfold bgf; omega) (by omega) I6 J5 (hM2.keep (Ag.two p5 c2 (by decide) (by decide))) (hMo.keep (Ag.tr (Ag.of sT (by decide)) (Ag.two p5 c2 (by decide) (by decide)))) p1 (by rw [hdL_1]; exact c1)
      rw [hdL_1] at this
      exact this
  · refine srch h (fr_X11_hidden I J) (fun I1 J1 => fr_X12_hidden I1 J1) (by decide) (-3) none ?_ ?_
    · unfold F_X11_hidden
      exact noX hB hW hX (Ok.mk ⟨rfl, hTF.1, hTF.2.1, rfl, rfl⟩)
    · intro I1 J1 hM hMo u1 u2
      have sT := th_s I1 0
      have hM2 : MB B (ui I1 m_self f_Model_thrown 0) := hM.keep (Ag.of sT (by decide))
      unfold F_X12_hidden
      exact Ok.lbv (Ok.cpe ((X12_can hB _ _ hM2).2 hW) (Ok.t (by decide) (Ok.mk ⟨rfl, hMo.keep (Ag.of sT (by decide)), toM_o sT (Sm.rf (w := [])) (by decide) (by decide)⟩)))

def ftL (p : Nat → Bool) (N t : Nat) : List Int64 := if t = 0 then [] else [Int32.toInt64 (fuI (fsS p N))]
theorem pc_gap {p : Nat → Bool} {st s : Nat} (h : st ≤ s) (hn : ∀ j, st ≤ j → j < s → p j = false) : pcP s p = pcP st p := by
  obtain ⟨d, rfl⟩ : ∃ d, s = st + d := ⟨s - st, by omega⟩
  rw [pcP_add, pcP_0 (fun k hk => hn (st + k) (by omega) (by omega)), Nat.add_zero]
theorem pc_mono {p : Nat → Bool} {a b : Nat} (h : a ≤ b) : pcP a p ≤ pcP b p := by
  obtain ⟨d, rfl⟩ : ∃ d, b = a + d := ⟨b - a, by omega⟩
  rw [pcP_add]; omega
theorem X11_tells_L {B : Bd} (hB : OkB B) {f : Nat} (hf : f < nF B) : ∀ K st o I J, XB B I J → rfQ B I J → st ≤ 3 ^ bW B → isF (df B 0 f) st (3 ^ bW B) o → 3 ^ bW B - st < K → tX (ftL (df B 0 f) (3 ^ bW B) (pcP st (df B 0 f))) I J → Ok (F_X11_tells_L46 (nI f) K (nI (pcP st (df B 0 f))) (fuI o) (nI (pcP st (df B 0 f))) I J) (fun q => q.1 = nI (pcP (3 ^ bW B) (df B 0 f)) ∧ CTab B q.2.1 q.2.2 ∧ CFlow q.2.1 q.2.2 ∧ tX (ftL (df B 0 f) (3 ^ bW B) (pcP (3 ^ bW B) (df B 0 f))) q.2.1 q.2.2) := by
  intro K
  induction K with
  | zero => intro st o I J _ _ _ _ hK; omega
  | succ K ih =>
    intro st o I J hX hR hst ho hK ht
    have hp := p3_le hR.1.1
    have hle := pcP_le st (df B 0 f)
    have hle2 := pcP_le (3 ^ bW B) (df B 0 f)
    have hmo := pc_mono (p := df B 0 f) hst
    rw [F_X11_tells_L46]
    refine Ok.ite (fun c => ?_) (fun c => ?_)
    · have c' : nI 2187 ≤ nI (pcP st (df B 0 f)) := c
      rw [n_le (by omega) (by omega)] at c'
      have : pcP st (df B 0 f) = pcP (3 ^ bW B) (df B 0 f) := by omega
      rw [this] at ht ⊢
      exact Ok.mk ⟨rfl, hR.tab, hR.2.2, ht⟩
    · cases o with
      | none =>
        have hz : pcP (3 ^ bW B) (df B 0 f) = pcP st (df B 0 f) := pc_gap hst (ho.2 rfl)
        rw [← hz] at ht ⊢
        exact Ok.t rfl (Ok.mk ⟨rfl, hR.tab, hR.2.2, ht⟩)
      | some s =>
        obtain ⟨g1, g2, g3, g4⟩ := ho.1 s rfl
        have hpc : pcP (s + 1) (df B 0 f) = pcP st (df B 0 f) + 1 := by rw [pcP_s, g3, pc_gap g1 g4]; rfl
        refine Ok.f (show ¬ nI s = (-1 : Int32) from fun hh => (n_ne1 (by omega)).mp hh) ?_
        have fin : ∀ I2 J2, XB B I2 J2 → rfQ B I2 J2 → tX (ftL (df B 0 f) (3 ^ bW B) (pcP st (df B 0 f) + 1)) I2 J2 → Ok (cl (F_X7_firstParting 0 (nI f) (nI s + 1) I2 J2) fun r13 I14 J15 => F_X11_tells_L46 (nI f) K (nI (pcP st (df B 0 f)) + 1) r13 (nI (pcP st (df B 0 f)) + 1) I14 J15) (fun q => q.1 = nI (pcP (3 ^ bW B) (df B 0 f)) ∧ CTab B q.2.1 q.2.2 ∧ CFlow q.2.1 q.2.2 ∧ tX (ftL (df B 0 f) (3 ^ bW B) (pcP (3 ^ bW B) (df B 0 f))) q.2.1 q.2.2) := by
          intro I2 J2 hX2 hR2 ht2
          rw [nI_1, nI_1]
          refine Ok.call ((X7_parting hB (nF_0 B) hf (s + 1) (by omega) I2 J2 hX2 hR2).fo (fr_X7_firstParting _ _ _ I2 J2)) (fun r I5 J5 _ hP => ?_)
          obtain ⟨⟨o2, p1, p2, p3, p4⟩, p5, p6⟩ := hP
          simp only at p1 p3 p4 p5 p6
          rw [p1, ← hpc]
          exact ih (s + 1) o2 I5 J5 p3 p4 (by omega) p2 (by omega) (by rw [hpc]; exact ht2.keep (Ag.of p5 (by decide)) (Ag.of p6 (by decide)))
        refine Ok.lbv ?_
        by_cases c0 : pcP st (df B 0 f) = 0
        · have hfs : fsS (df B 0 f) (3 ^ bW B) = some s := fsS_some.mpr ⟨g2, g3, fun j hj => by
            by_cases cj : j < st
            · exact pcP_z c0 j cj
            · exact g4 j (by omega) hj⟩
          refine Ok.t (show nI (pcP st (df B 0 f)) = (0 : Int32) by rw [c0]; rfl) ?_
          have ht0 : tX [] I J := by rw [c0] at ht; exact ht
          refine add1 ht0 (by simp) (fun I6 J6 d1 d2 d3 => ?_)
          refine fin I6 J6 (hX.keep (Ag.of d2 (by decide)) (Ag.of d3 (by decide))) (hR.k1 d2 d3) ?_
          unfold ftL; rw [if_neg (by omega), hfs]; exact d1
        · refine Ok.f (show ¬ nI (pcP st (df B 0 f)) = (0 : Int32) from fun h0 => by
            have h0' : nI (pcP st (df B 0 f)) = nI 0 := h0
            rw [n_eq (by omega) (by omega)] at h0'; exact c0 h0') ?_
          refine fin I J hX hR ?_
          unfold ftL at ht ⊢; rw [if_neg c0] at ht; rw [if_neg (by omega)]; exact ht
theorem X12_tells_L {B : Bd} (hB : OkB B) (hW : bW B ≤ 7) {f : Nat} : ∀ K i, i ≤ 3 ^ bW B → 3 ^ bW B - i < K → ∀ I J, MB B I → CMod I → glQ B 0 f J → tM (ftL (df B 0 f) (3 ^ bW B) (pcP i (df B 0 f))) I J → Ok (F_X12_tells_L52 K (nI (pcP i (df B 0 f))) (nI i) I J) (fun q => q.1 = nI (pcP (3 ^ bW B) (df B 0 f)) ∧ CMod q.2.1 ∧ tM (ftL (df B 0 f) (3 ^ bW B) (pcP (3 ^ bW B) (df B 0 f))) q.2.1 q.2.2) := by
  have hp := p3_le hW
  refine up ?_ ?_
  · intro K I J hM hMo _ ht
    rw [F_X12_tells_L52]
    exact Ok.cpe (X12_settings _ hW hM.1) (Ok.t (by rw [n_le] <;> omega) (Ok.mk ⟨rfl, hMo, ht⟩))
  · intro K i hi ih I J hM hMo hg ht
    have hle := pcP_le i (df B 0 f)
    obtain ⟨g1, g2⟩ := hg i hi
    rw [F_X12_tells_L52]
    refine Ok.cpe (X12_settings _ hW hM.1) (Ok.f (by rw [n_le] <;> omega) (Ok.bxe (by omega) (by omega) (Ok.bxe (by omega) (by omega) (Ok.lbv ?_))))
    rw [n_cl (by omega), g1, g2, nI_1, nI_1]
    rw [pcP_s] at ih
    by_cases e : gS B 0 i = gS B f i
    · have hd : df B 0 f i = false := by unfold df; simp [e]
      rw [hd] at ih
      exact Ok.t (show lg_cmp _ _ = 0 from lc0.mpr e) (ih I J hM hMo hg ht)
    · have hd : df B 0 f i = true := by unfold df; simp [e]
      rw [hd] at ih
      refine Ok.f (show ¬ lg_cmp _ _ = 0 from fun h0 => e (lc0.mp h0)) (Ok.lbv ?_)
      by_cases c0 : pcP i (df B 0 f) = 0
      · have hfs : fsS (df B 0 f) (3 ^ bW B) = some i := fsS_some.mpr ⟨hi, hd, fun j hj => pcP_z c0 j hj⟩
        refine Ok.t (show nI (pcP i (df B 0 f)) = (0 : Int32) by rw [c0]; rfl) ?_
        have ht0 : tM [] I J := by rw [c0] at ht; exact ht
        refine tel1 ht0 (by simp) (fun I6 J6 d1 d2 d3 => ?_)
        refine ih I6 J6 (hM.keep (Ag.of d2 (by decide))) (hMo.k1 d2) (fun s hs => by rw [d3 _ _ rfl, d3 _ _ rfl]; exact hg s hs) ?_
        unfold ftL; rw [if_neg (by simp), hfs]; exact d1
      · refine Ok.f (show ¬ nI (pcP i (df B 0 f)) = (0 : Int32) from fun h0 => by
          have h0' : nI (pcP i (df B 0 f)) = nI 0 := h0
          rw [n_eq (by omega) (by omega)] at h0'; exact c0 h0') ?_
        refine ih I J hM hMo hg ?_
        unfold ftL at ht ⊢; rw [if_neg c0] at ht; rw [if_neg (by simp)]; exact ht

theorem OP33 (n : Nat) (b : Bool) (I : HI) (J : HJ) (a1 a2 a3 a4 : Int32) (h : Iv (n + 1) b I J) : Op33 (Iv n) b I J a1 a2 a3 a4 := by
  obtain ⟨B, nb, h⟩ := h
  have hB := h.1
  have h60 := hB.2.2.1
  have hX := h.2.1
  have hM0 := h.2.2.1
  have hTF := h.2.2.2.2.2.2.2.2.2
  have hN := h.2.2.2.2.1

  rcases i_case a1 (nF B) (by have := nF_le hB; omega) with ⟨f, hf, rfl⟩ | ⟨hn1, _⟩
  · skip
    by_cases hW : bW B ≤ 7
    · have hp := p3_le hW
      skip
      refine srch h (fr_X11_tells (nI f) I J) (fun I1 J1 => fr_X12_tells (nI f) I1 J1) (by decide) (nI (pcP (3 ^ bW B) (df B 0 f))) (some (ftL (df B 0 f) (3 ^ bW B) (pcP (3 ^ bW B) (df B 0 f)))) ?_ ?_
      · unfold F_X11_tells
        refine Ok.cpe ((X7_has hB hX).1 ⟨f, hf, rfl⟩) (Ok.f (by decide) (openX hB hW hX hTF.1 hTF.2.1 (fun I3 J4 hX3 hR s1 s2 => ?_)))
        refine clr1 (fun I5 c1 c2 => ?_)
        have hX5 := hX3.keep (I' := I5) (Ag.of c2 (by decide)) (fun (c j : Nat) (_ : inW rdXBj c j = true) => (rfl : J4 c j = J4 c j))
        refine Ok.call ((X7_parting hB (nF_0 B) hf 0 (Nat.zero_le _) I5 J4 hX5 (hR.k1 c2 Sm.rf)).fo (fr_X7_firstParting _ _ _ I5 J4)) (fun r I6 J6 _ hP => ?_)
        obtain ⟨⟨o2, p1, p2, p3, p4⟩, p5, p6⟩ := hP
        simp only at p1 p3 p4 p5 p6
        rw [p1]
        exact X11_tells_L hB hf bgf 0 o2 I6 J6 p3 p4 (Nat.zero_le _) p2 (by unfold bgf; omega) (c1.keep (Ag.of p5 (by decide)) (Ag.of p6 (by decide)))
      · intro I1 J1 hM hMo u1 u2
        have sT := th_s I1 0
        have hM2 : MB B (ui I1 m_self f_Model_thrown 0) := hM.keep (Ag.of sT (by decide))
        unfold F_X12_tells
        refine Ok.lbv (Ok.cpe ((X12_isFault hB hM2).1 ⟨f, hf, rfl⟩) (Ok.f (by decide) (Ok.cpe ((X12_can hB _ _ hM2).1 hW) (Ok.f (by decide) (glow2 hB hW (nF_0 B) hf hM2 (hMo.keep (Ag.of sT (by decide))) (fun I3 J4 hM3 hMo3 hgl hst t1 t2 => ?_))))))
        refine clrM (J := J4) (fun I6 c1 c2 => ?_)
        exact X12_tells_L hB hW bgf 0 (Nat.zero_le _) (by unfold bgf; omega) I6 J4 (hM3.keep (Ag.of c2 (by decide))) (hMo3.k1 c2) hgl c1
    · refine srch h (fr_X11_tells (nI f) I J) (fun I1 J1 => fr_X12_tells (nI f) I1 J1) (by decide) (-3) none ?_ ?_
      · unfold F_X11_tells
        exact Ok.cpe ((X7_has hB hX).1 ⟨f, hf, rfl⟩) (Ok.f (by decide) (noX hB hW hX (Ok.mk ⟨rfl, hTF.1, hTF.2.1, rfl, rfl⟩)))
      · intro I1 J1 hM hMo u1 u2
        have sT := th_s I1 0
        have hM2 : MB B (ui I1 m_self f_Model_thrown 0) := hM.keep (Ag.of sT (by decide))
        unfold F_X12_tells
        exact Ok.lbv (Ok.cpe ((X12_isFault hB hM2).1 ⟨f, hf, rfl⟩) (Ok.f (by decide) (Ok.cpe ((X12_can hB _ _ hM2).2 hW) (Ok.t (by decide) (Ok.mk ⟨rfl, hMo.keep (Ag.of sT (by decide)), toM_o sT (Sm.rf (w := [])) (by decide) (by decide)⟩)))))
  · refine ⟨-1, I, J, ui I m_self f_Model_thrown 0, J, ?_, ?_, IV_th h (th_s I 0) Sm.rf⟩
    · unfold F_X11_tells
      exact cp0 ((X7_has hB hX).2 hn1)
    · unfold F_X12_tells
      exact (lb_e _ _).trans (cp0 ((X12_isFault (J := J) hB (hM0.keep (Ag.of (th_s I 0) (by decide)))).2 hn1))

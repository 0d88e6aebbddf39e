/-! LAYER 2: even: the slots given -/
def evS (B : Bd) (L C : List Nat) (n : Nat) : Int64 := if C.length = 0 then 0 else smS (fun t => lgS B L C t (dmC B L C (slR B L C n))) (slR B L C n) L.length
theorem X4_giveSlots {B : Bd} (hB : OkB B) (hW : bW B ≤ 7) {L C : List Nat} (hL : L.length ≤ 12) (hl : ∀ e, e ∈ L → e < 3 ^ bW B) (hC : C.length ≤ 12) (h60 : ∀ k, k < C.length → C.getD k 0 < 60) (hCL0 : C.length = 0 → L.length = 0) (hCL : 0 < C.length → 0 < L.length) {a : Nat} (ha : a ≤ 200) (hTa : L.length ≤ a) (I : HI) (J : HJ) (hX : XB B I J) (hF : CFlow I J) (hm : mbX C I) (hn : tnX L I) (htw : twX (bW B) I) : Ok (F_X4_giveSlots (nI a) I J) (fun q => q.1 = evS B L C (a - L.length) ∧ CFlow q.2.1 q.2.2 ∧ ∀ t, t < L.length → q.2.1 x_parting_slots t = nI (slR B L C (a - L.length) t)) := by
  unfold F_X4_giveSlots
  have l1 : ∀ (kx : HI → Option (Int64 × HI × HJ)) (Q : Int64 × HI × HJ → Prop), (∀ I', Sm [(x_parting_slots, none)] I I' → (∀ t, t < L.length → I' x_parting_slots t = nI 1) → Ok (kx I') Q) → ∀ K t, t ≤ L.length → L.length - t < K → ∀ I', Sm [(x_parting_slots, none)] I I' → (∀ t', t' < t → I' x_parting_slots t' = nI 1) → Ok (F_X4_giveSlots_L2 (nI a) J kx K (nI t) I') Q := by
    intro kx Q hx
    refine up ?_ ?_
    · intro K I' s1 s2
      rw [F_X4_giveSlots_L2]
      exact Ok.t (by rw [s1 _ _ rfl, hn.1, n_le] <;> omega) (hx I' s1 s2)
    · intro K t ht ih I' s1 s2
      rw [F_X4_giveSlots_L2]
      refine Ok.f (by rw [s1 _ _ rfl, hn.1, n_le] <;> omega) (Ok.bxe (by omega) (by omega) (Ok.lbv ?_))
      rw [n_cl (by omega), nI_1]
      refine ih _ (Sm.mi rfl s1) (fun t' ht' => ?_)
      rw [ui_s]
      by_cases c : t' = t
      · rw [if_pos c]; rfl
      · rw [if_neg c]; exact s2 t' (by omega)
  refine l1 _ _ (fun I6 s1 s2 => ?_) bgf 0 (Nat.zero_le _) (by unfold bgf; omega) I Sm.rf (fun t' h => absurd h (Nat.not_lt_zero _))
  refine Ok.call (fl_x_parting_sums 0 I6 J) (fun r I7 J8 _ hP => ?_)
  obtain ⟨f1, f2, f3⟩ := hP
  simp only at f1 f2 f3
  subst f1
  have hX7 : XB B I7 J8 := hX.keep (Ag.of s1 (by decide)) (Ag.of f3 (by decide))
  have hF7 : CFlow I7 J8 := hF.keep (Ag.of s1 (by decide)) (Ag.of f3 (by decide))
  have hm7 : mbX C I7 := ⟨by rw [s1 _ _ rfl]; exact hm.1, fun k hk => by rw [s1 _ _ rfl]; exact hm.2 k hk⟩
  have hn7 : tnX L I7 := ⟨by rw [s1 _ _ rfl]; exact hn.1, fun k hk => by rw [s1 _ _ rfl]; exact hn.2 k hk⟩
  refine Ok.call ((X4_takeLights hB hW hL hl hC h60 I7 J8 hX7 hF7 hm7 hn7 (fun s hs => by rw [s1 x_table_high _ rfl, s1 x_table_low _ rfl]; exact htw s hs) f2).fo (fr_X4_takeLights I7 J8)) (fun r I9 J10 _ hP => ?_)
  obtain ⟨⟨g1, g2, g3⟩, t1, t2⟩ := hP
  simp only at g1 g2 g3 t1 t2
  have hm9 : mbX C I9 := ⟨by rw [t1 _ _ rfl]; exact hm7.1, fun k hk => by rw [t1 _ _ rfl]; exact hm7.2 k hk⟩
  have hn9 : tnX L I9 := ⟨by rw [t1 _ _ rfl]; exact hn7.1, fun k hk => by rw [t1 _ _ rfl]; exact hn7.2 k hk⟩
  have hs9 : ∀ t, t < L.length → I9 x_parting_slots t = nI 1 := fun t ht => by rw [t1 _ _ rfl]; exact s2 t ht
  rw [hm9.1]
  by_cases c0 : C.length = 0
  · refine Ok.t (by rw [c0]; rfl) (Ok.mk ⟨?_, g1, fun t ht => ?_⟩)
    · unfold evS; rw [if_pos c0]
    · rw [hCL0 c0] at ht; exact absurd ht (Nat.not_lt_zero _)
  · have hC0 : 0 < C.length := by omega
    have hL0 := hCL hC0
    refine Ok.f (show ¬ nI C.length = nI 0 by rw [n_eq] <;> omega) (Ok.lbv ?_)
    rw [hn9.1]
    have lp : ∀ (kx : HI → HJ → Option (Int64 × HI × HJ)) (Q : Int64 × HI × HJ → Prop), (∀ I' J', Sm [(x_parting_slots, none)] I9 I' → Sm [(x_parting_sums, none)] J10 J' → (∀ t, t < L.length → I' x_parting_slots t = nI (slR B L C (a - L.length) t)) → (∀ k, k < C.length → J' x_parting_sums k = smS (fun t => lgS B L C t k) (slR B L C (a - L.length)) L.length) → Ok (kx I' J') Q) → ∀ K n, n ≤ a - L.length → a - L.length - n < K → ∀ I' J', Sm [(x_parting_slots, none)] I9 I' → Sm [(x_parting_sums, none)] J10 J' → (∀ t, t < L.length → I' x_parting_slots t = nI (slR B L C n t)) → (∀ k, k < C.length → J' x_parting_sums k = smS (fun t => lgS B L C t k) (slR B L C n) L.length) → Ok (F_X4_giveSlots_L49 (nI a) kx K (nI (L.length + n)) I' J') Q := by
      intro kx Q hx
      refine up ?_ ?_
      · intro K I' J' a1 a2 a3 a4
        rw [F_X4_giveSlots_L49]
        exact Ok.t (by rw [n_le] <;> omega) (hx I' J' a1 a2 a3 a4)
      · intro K n hn' ih I' J' a1 a2 a3 a4
        rw [F_X4_giveSlots_L49]
        have hmI : mbX C I' := ⟨by rw [a1 _ _ rfl]; exact hm9.1, fun k hk => by rw [a1 _ _ rfl]; exact hm9.2 k hk⟩
        have hnI : tnX L I' := ⟨by rw [a1 _ _ rfl]; exact hn9.1, fun k hk => by rw [a1 _ _ rfl]; exact hn9.2 k hk⟩
        have hdm : dmC B L C (slR B L C n) < C.length := dmF_lt _ hC0
        have hmx : mxC B L C (dmC B L C (slR B L C n)) < L.length := mxF_lt _ hL0
        have hle := slR_le B L C n (mxC B L C (dmC B L C (slR B L C n)))
        refine Ok.f (by rw [n_le] <;> omega) (Ok.cpe (x := nI (dmC B L C (slR B L C n))) (X4_dimmest hC hC0 hmI a4) (Ok.cpe (x := nI (mxC B L C (dmC B L C (slR B L C n)))) (X4_brightest hL hL0 (by omega) hnI (fun t ht => by rw [a2 _ _ rfl]; exact g2 t _ ht hdm)) ?_))
        refine Ok.bxe (by omega) (by omega) (Ok.bxe (by omega) (by omega) (Ok.lbv ?_))
        rw [n_cl (by omega), a3 _ hmx, nI_1, show nI (L.length + n) + 1 = nI (L.length + (n + 1)) from nI_1 _]
        have sI : Sm [(x_parting_slots, none)] I9 (ui I' x_parting_slots (mxC B L C (dmC B L C (slR B L C n))) (nI (slR B L C n (mxC B L C (dmC B L C (slR B L C n))) + 1))) := Sm.mi rfl a1
        refine X4_give_76 (B := B) (L := L) hC (show mxC B L C (dmC B L C (slR B L C n)) < 12 by omega) (I := ui I' x_parting_slots (mxC B L C (dmC B L C (slR B L C n))) (nI (slR B L C n (mxC B L C (dmC B L C (slR B L C n))) + 1))) ⟨by rw [sI _ _ rfl]; exact hm9.1, fun k hk => by rw [sI _ _ rfl]; exact hm9.2 k hk⟩ J' (fun k hk => by rw [a2 _ _ rfl]; exact g2 _ k hmx hk) (fun J3 b1 b2 => ?_) bgf 0 (Nat.zero_le _) (by unfold bgf; omega) J' Sm.rf (fun k' hk' => by rw [if_neg (Nat.not_lt_zero _)])
        refine ih _ J3 sI (Sm.tr (by decide) a2 b1) (fun t ht => ?_) (fun k hk => ?_)
        · rw [ui_s]
          show _ = nI (inc (slR B L C n) (mxC B L C (dmC B L C (slR B L C n))) t)
          unfold inc
          by_cases c : t = mxC B L C (dmC B L C (slR B L C n))
          · rw [if_pos c, if_pos c, c]
          · rw [if_neg c, if_neg c]; exact a3 t ht
        · rw [b2 k hk, a4 k hk]
          exact (smS_inc (by omega) hmx).symm
    refine lp _ _ (fun I' J' a1 a2 a3 a4 => ?_) bgf 0 (Nat.zero_le _) (by unfold bgf; omega) I9 J10 Sm.rf Sm.rf hs9 g3
    have hmI : mbX C I' := ⟨by rw [a1 _ _ rfl]; exact hm9.1, fun k hk => by rw [a1 _ _ rfl]; exact hm9.2 k hk⟩
    have hdm : dmC B L C (slR B L C (a - L.length)) < C.length := dmF_lt _ hC0
    refine Ok.cpe (x := nI (dmC B L C (slR B L C (a - L.length)))) (X4_dimmest hC hC0 hmI a4) (Ok.bxe (by omega) (by omega) ?_)
    refine Ok.mk ⟨?_, g1.keep (Ag.of a1 (by decide)) (Ag.of a2 (by decide)), a3⟩
    dsimp only
    rw [n_cl (by omega), a4 _ hdm]
    unfold evS; rw [if_neg c0]
-- the reference
theorem X12_sumOf {L : List Nat} (hL : L.length ≤ 12) {k : Nat} (hk : k < 12) {g : Nat → Int64} {sl : Nat → Nat} {I : HI} {J : HJ} (h0 : I m_self f_Model_turns = nI L.length) (hs : ∀ t, t < L.length → I m_slots t = nI (sl t)) (hg : ∀ t, t < L.length → J m_lightIn (12 * t + k) = g t) : F_X12_sumOf (nI k) I J = some (smS g sl L.length) := by
  unfold F_X12_sumOf
  have lp : ∀ K t, t ≤ L.length → L.length - t < K → F_X12_sumOf_L5 (nI k) I J K (smS g sl t) (nI t) = some (smS g sl L.length) := by
    refine up ?_ ?_
    · intro K
      rw [F_X12_sumOf_L5, h0, if_pos (by rw [n_le] <;> omega)]
    · intro K t ht ih
      rw [F_X12_sumOf_L5, h0, if_neg (by rw [n_le] <;> omega), show (12 : Int32) = nI 12 from rfl, n_mul, nI_add, n_bx (by omega) (by omega), n_bx (by omega) (by omega), n_cl (by omega), n_cl (by omega), hs t ht, hg t ht, nI_1]
      exact ih
  exact lp bgf 0 (Nat.zero_le _) (by unfold bgf; omega)
theorem X12_dimmest {B : Bd} {L C : List Nat} (hL : L.length ≤ 12) (hC : C.length ≤ 12) (hC0 : 0 < C.length) {sl : Nat → Nat} {I : HI} {J : HJ} (h0 : I m_self f_Model_turns = nI L.length) (hm : I m_self f_Model_members = nI C.length) (hs : ∀ t, t < L.length → I m_slots t = nI (sl t)) (hg : ∀ t k, t < L.length → k < C.length → J m_lightIn (12 * t + k) = lgS B L C t k) : F_X12_dimmest I J = some (nI (dmC B L C sl)) := by
  have hsum : ∀ k, k < C.length → F_X12_sumOf (nI k) I J = some (smS (fun t => lgS B L C t k) sl L.length) := fun k hk => X12_sumOf hL (by omega) h0 hs (fun t ht => hg t k ht hk)
  unfold F_X12_dimmest dmC
  generalize hf : (fun k => smS (fun t => lgS B L C t k) sl L.length) = f
  have hsum' : ∀ k, k < C.length → F_X12_sumOf (nI k) I J = some (f k) := fun k hk => by rw [← hf]; exact hsum k hk
  have lp : ∀ K k, k ≤ C.length → C.length - k < K → 0 < k → F_X12_dimmest_L4 I J K (nI (dmF f k)) (nI k) = some (nI (dmF f C.length)) := by
    refine up ?_ ?_
    · intro K _
      rw [F_X12_dimmest_L4, hm, if_pos (by rw [n_le] <;> omega)]
    · intro K k hk ih hk0
      have hd := dmF_lt f hk0
      rw [F_X12_dimmest_L4, hm, if_neg (by rw [n_le] <;> omega), hsum' k hk, hsum' _ (by omega), nI_1]
      simp only [lb, cp, Option.bind_some]
      have ih := ih (by omega)
      rw [show dmF f (k + 1) = if f k < f (dmF f k) then k else dmF f k from rfl] at ih
      by_cases c : f k < f (dmF f k)
      · rw [if_pos c] at ih
        rw [if_neg (fun h => by have := (cmge (x := f k) (y := f (dmF f k))).mp h; rw [l_le] at this; rw [l_lt] at c; omega)]
        exact ih
      · rw [if_neg c] at ih
        rw [if_pos (show (0 : Int32) ≤ lg_cmp (f k) (f (dmF f k)) from (cmge (x := f k) (y := f (dmF f k))).mpr (by rw [l_le]; rw [l_lt] at c; omega))]
        exact ih
  have := lp bgf 1 (by omega) (by unfold bgf; omega) (by omega)
  rw [dmF_1] at this
  exact this
theorem X12_even_198 {L : List Nat} (hL : L.length ≤ 12) (hL0 : 0 < L.length) {d : Nat} (hd : d < 12) {g : Nat → Int64} {l4 : Int32} {I : HI} {J : HJ} (h0 : I m_self f_Model_turns = nI L.length) (hs : ∀ t, t < L.length → J m_lightIn (12 * t + d) = g t) {kx : Int32 → Option (Int64 × HI × HJ)} : F_X12_even_L198 l4 (nI d) I J kx bgf (0 : Int32) (1 : Int32) = kx (nI (mxF g L.length)) := by
  have lp : ∀ K k, k ≤ L.length → L.length - k < K → 0 < k → F_X12_even_L198 l4 (nI d) I J kx K (nI (mxF g k)) (nI k) = kx (nI (mxF g L.length)) := by
    refine up ?_ ?_
    · intro K _
      rw [F_X12_even_L198, h0, if_pos (by rw [n_le] <;> omega)]
    · intro K k hk ih hk0
      have hd := mxF_lt g hk0
      rw [F_X12_even_L198, h0, if_neg (by rw [n_le] <;> omega), show (12 : Int32) = nI 12 from rfl, n_mul, n_mul, nI_add, nI_add, n_bx (by omega) (by omega), n_bx (by omega) (by omega), n_cl (by omega), n_cl (by omega), hs k hk, hs _ (by omega), nI_1]
      simp only [lb]
      have ih := ih (by omega)
      rw [show mxF g (k + 1) = if g (mxF g k) < g k then k else mxF g k from rfl] at ih
      by_cases c : g (mxF g k) < g k
      · rw [if_pos c] at ih
        rw [if_neg (fun h => by have := (cmle (x := g k) (y := g (mxF g k))).mp h; rw [l_le] at this; rw [l_lt] at c; omega)]
        exact ih
      · rw [if_neg c] at ih
        rw [if_pos (show lg_cmp (g k) (g (mxF g k)) ≤ (0 : Int32) from (cmle (x := g k) (y := g (mxF g k))).mpr (by rw [l_le]; rw [l_lt] at c; omega))]
        exact ih
  have := lp bgf 1 (by omega) (by unfold bgf; omega) (by omega)
  rw [mxF_1] at this
  exact this
theorem X12_even_119 {B : Bd} {L C : List Nat} (hC : C.length ≤ 12) (h60 : ∀ k, k < C.length → C.getD k 0 < 60) {t : Nat} (ht : t < 12) {l2 : Int32} {I : HI} (hm : mbM C I) (J0 : HJ) (hlt : ∀ k, k < C.length → J0 m_light (C.getD k 0) = lgS B L C t k) {kx : HJ → Option (Int64 × HI × HJ)} {Q : Int64 × HI × HJ → Prop} (hx : ∀ J, Sm [(m_lightIn, none)] J0 J → (∀ t' k, t' ≤ t → k < C.length → (t' < t → J0 m_lightIn (12 * t' + k) = lgS B L C t' k) → J m_lightIn (12 * t' + k) = lgS B L C t' k) → Ok (kx J) Q) : ∀ K k, k ≤ C.length → C.length - k < K → ∀ J, Sm [(m_lightIn, none)] J0 J → (∀ t' k', t' < t → k' < 12 → J m_lightIn (12 * t' + k') = J0 m_lightIn (12 * t' + k')) → (∀ k', k' < k → J m_lightIn (12 * t + k') = lgS B L C t k') → Ok (F_X12_even_L119 l2 (nI t) I kx K (nI k) J) Q := by
  refine up ?_ ?_
  · intro K J s1 s2 s3
    rw [F_X12_even_L119]
    refine Ok.t (by rw [hm.1, n_le] <;> omega) (hx J s1 (fun t' k ht' hk h => ?_))
    by_cases c : t' = t
    · rw [c]; exact s3 k hk
    · rw [s2 t' k (by omega) (by omega)]; exact h (by omega)
  · intro K k hk ih J s1 s2 s3
    have hck := h60 k hk
    rw [F_X12_even_L119]
    refine Ok.f (by rw [hm.1, n_le] <;> omega) (Ok.bxe (by omega) (by omega) ?_)
    rw [n_cl (by omega), hm.2 k hk, show (12 : Int32) = nI 12 from rfl, n_mul, nI_add, nI_1]
    refine Ok.bxe (by omega) (by omega) (Ok.bxe (by omega) (by omega) (Ok.lbv ?_))
    rw [n_cl (by omega), n_cl (by omega), s1 m_light _ rfl, hlt k hk]
    refine ih _ (Sm.mj rfl s1) (fun t' k' ht' hk' => ?_) (fun k' hk' => ?_)
    · rw [uj_j (by omega)]; exact s2 t' k' ht' hk'
    · rw [uj_s]
      by_cases c : k' = k
      · rw [c, if_pos rfl]
      · rw [if_neg (by omega)]; exact s3 k' (by omega)
theorem X12_even_81 {B : Bd} (hB : OkB B) (hW : bW B ≤ 7) {L C : List Nat} (hL : L.length ≤ 12) (hl : ∀ e, e ∈ L → e < 3 ^ bW B) (hC : C.length ≤ 12) (hCb : ∀ k, k < C.length → C.getD k 0 < bL B) {l2 : Int32} {kx : HI → HJ → Option (Int64 × HI × HJ)} {Q : Int64 × HI × HJ → Prop} (I0 : HI) (J0 : HJ) (hx : ∀ I J, tM [] I J → CMod I → mbM C I → tnM L I → (∀ t, t < L.length → I m_slots t = nI 1) → (∀ t k, t < L.length → k < C.length → J m_lightIn (12 * t + k) = lgS B L C t k) → Ok (kx I J) Q) : ∀ K t, t ≤ L.length → L.length - t < K → ∀ I J, tM [] I J → ML B I → CMod I → mbM C I → tnM L I → (∀ t', t' < t → I m_slots t' = nI 1) → (∀ t' k, t' < t → k < C.length → J m_lightIn (12 * t' + k) = lgS B L C t' k) → Ok (F_X12_even_L81 l2 kx K (nI t) I J) Q := by
  have h3 := p3_le hW
  have h60 := hB.2.2.1
  refine up ?_ ?_
  · intro K I J ht hM hMo hm hn h5 h6
    rw [F_X12_even_L81]
    exact Ok.t (by rw [hn.1, n_le] <;> omega) (hx I J ht hMo hm hn h5 h6)
  · intro K t ht ih I J htm hM hMo hm hn h5 h6
    have hlt := hl _ (nat_getD_m ht)
    rw [F_X12_even_L81]
    refine Ok.f (by rw [hn.1, n_le] <;> omega) (Ok.bxe (by omega) (by omega) ?_)
    rw [n_cl (by omega), hn.2 t ht]
    obtain ⟨e1, e2⟩ := X12_high hB (J := J) hM.1 (L.getD t 0) (by omega)
    refine Ok.cpe e1 (Ok.bxe (by omega) (by omega) (Ok.cpe e2 ?_))
    refine Ok.call ((X12_shine hB (nF_0 B) false none trivial _ _ (wr_ok (bW B) (L.getD t 0) hB.2.1).1 I J hM.1 hM.2 hMo.c0).fo (fr_X12_shine _ _ I J)) (fun r I2 J2 _ hP => ?_)
    obtain ⟨hq, s1, s2⟩ := hP
    have hrm := hq.1
    simp only at s1 s2 hrm
    have hm2 : mbM C I2 := ⟨by rw [s1 _ _ rfl]; exact hm.1, fun k hk => by rw [s1 _ _ rfl]; exact hm.2 k hk⟩
    have hn2 : tnM L I2 := ⟨by rw [s1 _ _ rfl]; exact hn.1, fun k hk => by rw [s1 _ _ rfl]; exact hn.2 k hk⟩
    refine X12_even_119 (B := B) (L := L) hC (fun k hk => by have := hCb k hk; omega) (show t < 12 by omega) hm2 J2 (fun k hk => hrm _ (hCb k hk)) (fun J3 a1 a2 => ?_) bgf 0 (Nat.zero_le _) (by unfold bgf; omega) J2 Sm.rf (fun _ _ _ _ => rfl) (fun k' h => absurd h (Nat.not_lt_zero _))
    refine Ok.bxe (by omega) (by omega) (Ok.lbv ?_)
    rw [nI_1]
    have sI : Sm [(m_slots, none)] I2 (ui I2 m_slots t (1 : Int32)) := Sm.mi rfl Sm.rf
    refine ih _ J3 ⟨by rw [sI _ _ rfl, s1 _ _ rfl]; exact htm.1, fun k h => by cases h⟩ (hM.keep (Ag.two s1 sI (by decide) (by decide)) (Ag.two s1 sI (by decide) (by decide))) (hMo.keep (Ag.two s1 sI (by decide) (by decide))) ⟨by rw [sI _ _ rfl]; exact hm2.1, fun k hk => by rw [sI _ _ rfl]; exact hm2.2 k hk⟩ ⟨by rw [sI _ _ rfl]; exact hn2.1, fun k hk => by rw [sI _ _ rfl]; exact hn2.2 k hk⟩ (fun t' ht' => ?_) (fun t' k ht' hk => a2 t' k (by omega) hk (fun h => by rw [s2 _ _ rfl]; exact h6 t' k h hk))
    rw [ui_s]
    by_cases c : t' = t
    · rw [if_pos c]; rfl
    · rw [if_neg c, s1 _ _ rfl]; exact h5 t' (by omega)
theorem X12_even_181 {B : Bd} {L C : List Nat} (hL : L.length ≤ 12) (hL0 : 0 < L.length) (hC : C.length ≤ 12) (hC0 : 0 < C.length) {N : Nat} (hN : N ≤ 200) {J : HJ} (hg : ∀ t k, t < L.length → k < C.length → J m_lightIn (12 * t + k) = lgS B L C t k) {kx : HI → Option (Int64 × HI × HJ)} {Q : Int64 × HI × HJ → Prop} (I0 : HI) (h0 : I0 m_self f_Model_turns = nI L.length) (hm : I0 m_self f_Model_members = nI C.length) (hx : ∀ I, Sm [(m_slots, none)] I0 I → (∀ t, t < L.length → I m_slots t = nI (slR B L C N t)) → Ok (kx I) Q) : ∀ K n, n ≤ N → N - n < K → ∀ I, Sm [(m_slots, none)] I0 I → (∀ t, t < L.length → I m_slots t = nI (slR B L C n t)) → Ok (F_X12_even_L181 J kx K (nI (N - n)) I) Q := by
  refine up ?_ ?_
  · intro K I s1 s2
    rw [F_X12_even_L181]
    exact Ok.t (by rw [Nat.sub_self]; decide) (hx I s1 s2)
  · intro K n hn ih I s1 s2
    have hdm : dmC B L C (slR B L C n) < C.length := dmF_lt _ hC0
    have hmx : mxC B L C (dmC B L C (slR B L C n)) < L.length := mxF_lt _ hL0
    have hle := slR_le B L C n (mxC B L C (dmC B L C (slR B L C n)))
    have h0' : I m_self f_Model_turns = nI L.length := by rw [s1 _ _ rfl]; exact h0
    rw [F_X12_even_L181]
    refine Ok.f (n_z (by omega) (by omega)) (Ok.cpe (X12_dimmest hL hC hC0 h0' (by rw [s1 _ _ rfl]; exact hm) s2 hg) ?_)
    rw [X12_even_198 (g := fun t => lgS B L C t (dmC B L C (slR B L C n))) hL hL0 (show dmC B L C (slR B L C n) < 12 by omega) h0' (fun t ht => hg t _ ht hdm)]
    show Ok (bx (nI (mxC B L C (dmC B L C (slR B L C n)))) 12 _) Q
    refine Ok.bxe (by omega) (by omega) ?_
    show Ok (bx (nI (mxC B L C (dmC B L C (slR B L C n)))) 12 (lb (ui I m_slots (Int32.toNatClampNeg (nI (mxC B L C (dmC B L C (slR B L C n))))) (I m_slots (Int32.toNatClampNeg (nI (mxC B L C (dmC B L C (slR B L C n))))) + 1)) _)) Q
    refine Ok.bxe (by omega) (by omega) (Ok.lbv ?_)
    rw [n_cl (by omega), s2 _ hmx, nI_1]
    have e : nI (N - n) + (-1) = nI (N - (n + 1)) := by
      have := n_m1 (N - (n + 1))
      rw [show N - (n + 1) + 1 = N - n by omega] at this
      exact this
    show Ok (F_X12_even_L181 J kx K (nI (N - n) + (-1)) _) Q
    rw [e]
    refine ih _ (Sm.mi rfl s1) (fun t ht => ?_)
    rw [ui_s]
    show _ = nI (inc (slR B L C n) (mxC B L C (dmC B L C (slR B L C n))) t)
    unfold inc
    by_cases c : t = mxC B L C (dmC B L C (slR B L C n))
    · rw [if_pos c, if_pos c, c]
    · rw [if_neg c, if_neg c]; exact s2 t ht
theorem tellE {L : List Nat} (hL : L.length ≤ 12) (I : HI) (J : HJ) (ht : tM [] I J) (h0 : I m_self f_Model_turns = nI L.length) (h : ∀ k, k < L.length → I m_slots k = nI (L.getD k 0)) {kx : HI → HJ → Option (Int64 × HI × HJ)} {Q : Int64 × HI × HJ → Prop} (hx : ∀ I' J', tM (L.map tI) I' J' → Sm [(m_self, some f_Model_rowMany)] I I' → Sm [(m_row, none)] J J' → Ok (kx I' J') Q) : Ok (F_X12_even_L267 kx bgf (0 : Int32) I J) Q := by
  have lp : ∀ (R P : List Nat) (K : Nat), L = P ++ R → R.length < K → ∀ I' J', Sm [(m_self, some f_Model_rowMany)] I I' → Sm [(m_row, none)] J J' → tM (P.map tI) I' J' → Ok (F_X12_even_L267 kx K (nI P.length) I' J') Q := by
    intro R
    induction R with
    | nil =>
      intro P K hP hK I' J' s1 s2 s3
      obtain ⟨K, rfl⟩ : ∃ K', K = K' + 1 := ⟨K - 1, by simp at hK; omega⟩
      rw [List.append_nil] at hP
      rw [← hP] at s3 ⊢
      rw [F_X12_even_L267]
      exact Ok.t (by rw [s1 _ _ rfl, h0, n_le] <;> omega) (hx I' J' s3 s1 s2)
    | cons w R ih =>
      intro P K hP hK I' J' s1 s2 s3
      obtain ⟨K, rfl⟩ : ∃ K', K = K' + 1 := ⟨K - 1, by simp at hK; omega⟩
      have hlen : P.length < L.length := by rw [hP]; simp
      rw [F_X12_even_L267]
      refine Ok.f (by rw [s1 _ _ rfl, h0, n_le] <;> omega) (Ok.bxe (by omega) (by omega) ?_)
      have hw : L.getD P.length 0 = w := by rw [hP, nat_getD_at]
      rw [n_cl (by omega), s1 m_slots _ rfl, h _ hlen, hw, nI_1]
      refine tel1 s3 (by simp; omega) (fun I2 J2 d1 d2 d3 => ?_)
      have := ih (P ++ [w]) K (by rw [hP]; simp) (by simp at hK; omega) I2 J2 (Sm.tr (by decide) s1 d2) (Sm.tr (by decide) s2 d3) (by rw [List.map_append]; exact d1)
      rw [List.length_append, List.length_singleton] at this
      exact this
  exact lp L [] bgf rfl (by unfold bgf; omega) _ J Sm.rf Sm.rf ht

/-! LAYER 2: the reference's goOn, shine, glowing -/
theorem X12_goOn_ok {B : Bd} (hB : OkB B) {e : Nat → Option (Nat × Nat)} {hi lo : Nat → Bool} {o : Nat → Nat} (hE : EO B e hi lo o) (ct : Bool) (wt : Option Nat) (hwo : wtOk wt) (s : Nat) (hs : s < bW B) :
    ∀ n f p sm w been ps I J, n < f → p.length + (n + 1) = bD B → w < bW B → sm ≤ 20 → (∀ k, k ∈ p → k < bL B) → bnOk hi lo w p.length been → (p.length = 0 → hi w = true) → (∀ q, q ∈ ps → okP q) → CMo B e hi lo o I → RM B ct wt ps I J → wP p I →
      Ok (F_X12_goOn f (nI s) (nI w) (nI p.length) (nI sm) been I J) (gwQ B e hi lo o ct wt (ps ++ (wk B e hi lo (n + 1) w sm p).map (cy o s)) p) := by
  have hL := hB.2.2.1
  have hW := hB.2.1
  intro n
  induction n with
  | zero =>
    intro f p sm w been ps I J hf hpn hw hsm hp6 hbn hw0 hok hC hR hP
    cases f with
    | zero => omega
    | succ f =>
      rw [F_X12_goOn]
      unfold F_X12_goOn_B
      have e1 := hC.2.2.2.2.2.1.1 w (by omega)
      have hcw := cat_le B e w
      simp (disch := omega) only [n_bx, n_cl, lb, e1]
      rw [wk_m]
      have hc2 : (LFr B e w).length ≤ 60 := by
        have := cat_le B e (w + 1)
        rw [cat_s, List.length_append] at this
        omega
      exact X12_goOn_L hB hE ct wt hwo s w 0 sm p been hs hw (by omega) hp6 hsm hbn hw0 ps (F_X12_goOn f) (fun v sm' p' been' ps I J _ _ h0 => by omega) bgf 0 (by omega) (by unfold bgf; omega) I J hC (by simpa using hR) hP hok
  | succ n ih =>
    intro f p sm w been ps I J hf hpn hw hsm hp6 hbn hw0 hok hC hR hP
    cases f with
    | zero => omega
    | succ f =>
      rw [F_X12_goOn]
      unfold F_X12_goOn_B
      have e1 := hC.2.2.2.2.2.1.1 w (by omega)
      have hcw := cat_le B e w
      simp (disch := omega) only [n_bx, n_cl, lb, e1]
      rw [wk_m]
      have hc2 : (LFr B e w).length ≤ 60 := by
        have := cat_le B e (w + 1)
        rw [cat_s, List.length_append] at this
        omega
      refine X12_goOn_L hB hE ct wt hwo s w (n + 1) sm p been hs hw (by omega) hp6 hsm hbn hw0 ps (F_X12_goOn f) ?_ bgf 0 (by omega) (by unfold bgf; omega) I J hC (by simpa using hR) hP hok
      intro v sm' p' been' ps I J hv hp' _ hsm' hp6' hbn' hok' hC' hR' hP'
      exact ih f p' sm' v been' ps I J (by omega) (by omega) hv hsm' hp6' hbn' (fun h => by omega) hok' hC' hR' hP'
def zrM (B : Bd) (ct : Bool) (i : Nat) (I : HI) (J : HJ) : Prop := (∀ k, k < i → J m_light k = lN 0) ∧ (ct = true → ∀ k, k < i → I m_through k = nI 0 ∧ J m_mostOne k = lN 0)
theorem X12_shine_L1 {B : Bd} (hB : OkB B) (ct : Bool) (l1 l2 : Int32) (I0 : HI) (J0 : HJ) (hL : I0 m_self f_Model_lamps = nI (bL B)) (hct : I0 m_self f_Model_isCounted = b1 ct) (kx : HI → HJ → Option (Unit × HI × HJ)) (Q : Unit × HI × HJ → Prop)
    (hx : ∀ I J, zrM B ct (bL B) I J → Sm [(m_through, none)] I0 I → Sm [(m_light, none), (m_mostOne, none)] J0 J → Ok (kx I J) Q) :
    ∀ K i, i ≤ bL B → bL B - i < K → ∀ I J, zrM B ct i I J → Sm [(m_through, none)] I0 I → Sm [(m_light, none), (m_mostOne, none)] J0 J → Ok (F_X12_shine_L2 l1 l2 kx K (nI i) I J) Q := by
  have h60 := hB.2.2.1
  refine up ?_ ?_
  · intro K I J hz s1 s2
    rw [F_X12_shine_L2, if_pos (by rw [s1 _ _ rfl, hL, n_le] <;> omega)]
    exact hx I J hz s1 s2
  · intro K i hi ih I J hz s1 s2
    rw [F_X12_shine_L2, if_neg (by rw [s1 _ _ rfl, hL, n_le] <;> omega)]
    have e1 : I m_self f_Model_isCounted = b1 ct := by rw [s1 _ _ rfl]; exact hct
    simp (disch := omega) only [n_bx, n_cl, lb, lit32, litL, e1, b1_0, nI_1, nI_add]
    have z1 : ∀ k, k < i + 1 → uj J m_light i (lN 0) m_light k = lN 0 := fun k hk => by
      rw [uj_s]
      by_cases c : k = i
      · rw [if_pos c]
      · rw [if_neg c]; exact hz.1 k (by omega)
    cases hcc : ct with
    | false =>
      rw [if_pos rfl]
      exact ih _ _ ⟨z1, (fun h => by rw [hcc] at h; cases h)⟩ s1 (Sm.mj rfl s2)
    | true =>
      rw [if_neg (by simp)]
      refine ih _ _ ⟨fun k hk => by rw [uj_c (by decide)]; exact z1 k hk, fun _ k hk => ?_⟩ (Sm.mi rfl s1) (Sm.mj rfl (Sm.mj rfl s2))
      rw [ui_s, uj_s]
      by_cases c : k = i
      · rw [if_pos c, if_pos c]; exact ⟨rfl, rfl⟩
      · rw [if_neg c, if_neg c, uj_c (by decide)]; exact hz.2 hcc k (by omega)
theorem X12_shine_L2 {B : Bd} (hB : OkB B) (ct : Bool) (l1 l2 : Int32) (I : HI) (J0 : HJ) (hW : I m_self f_Model_wide = nI (bW B)) (hct : I m_self f_Model_isCounted = b1 ct) (kx : HJ → Option (Unit × HI × HJ)) (Q : Unit × HI × HJ → Prop)
    (hx : ∀ J, (ct = true → ∀ w, w < bW B → J m_drawn w = lN 0) → Sm [(m_drawn, none)] J0 J → Ok (kx J) Q) :
    ∀ K i, i ≤ bW B → bW B - i < K → ∀ J, ((ct = true → ∀ w, w < i → J m_drawn w = lN 0) ∧ Sm [(m_drawn, none)] J0 J) → Ok (F_X12_shine_L49 l1 l2 I kx K (nI i) J) Q := by
  have h10 := hB.2.1
  refine up ?_ ?_
  · intro K J hz
    rw [F_X12_shine_L49, if_pos (by rw [hW, n_le] <;> omega)]
    exact hx J hz.1 hz.2
  · intro K i hi ih J hz
    rw [F_X12_shine_L49, if_neg (by rw [hW, n_le] <;> omega)]
    simp (disch := omega) only [n_bx, n_cl, lb, lit32, litL, hct, b1_0, nI_1, nI_add]
    cases hcc : ct with
    | false =>
      rw [if_pos rfl]
      exact hx J (fun h => by rw [hcc] at h; cases h) hz.2
    | true =>
      rw [if_neg (by simp)]
      refine ih _ ⟨fun _ w hw => ?_, Sm.mj rfl hz.2⟩
      rw [uj_s]
      by_cases c : w = i
      · rw [if_pos c]
      · rw [if_neg c]; exact hz.1 hcc w (by omega)
theorem X12_shine_L3 {B : Bd} (hB : OkB B) {e : Nat → Option (Nat × Nat)} {hi lo : Nat → Bool} {o : Nat → Nat} (hE : EO B e hi lo o) (ct : Bool) (wt : Option Nat) (hwo : wtOk wt) (I0 : HI) (J0 : HJ) (hh : ∀ w, w < bW B → bi (I0 m_self f_Model_high) w = hi w ∨ (bi (I0 m_self f_Model_high) w = false ∧ LFr B e w = [])) :
    ∀ K i, i ≤ bW B → bW B - i < K → ∀ I J, CMo B e hi lo o I → RM B ct wt ((List.range i).flatMap (fun w => if hi w then (wk B e hi lo (bD B) w 0 []).map (cy o w) else [])) I J → Sm wi_X12_goOn I0 I → Ok (F_X12_shine_L89 K (nI i) I J) (fun q => RM B ct wt (paS B e hi lo o) q.2.1 q.2.2) := by
  have hw := hB.2.1
  have hd := hB.2.2.2.2.2.2.1
  have hd1 := hB.2.2.2.2.2.1
  refine up ?_ ?_
  · intro K I J hC hR s1
    rw [F_X12_shine_L89, hC.1, if_pos (by rw [n_le] <;> omega)]
    exact Ok.mk hR
  · intro K i hi' ih I J hC hR s1
    rw [F_X12_shine_L89, hC.1, if_neg (by rw [n_le] <;> omega)]
    have e1 : I m_self f_Model_high = I0 m_self f_Model_high := s1 _ _ rfl
    simp (disch := omega) only [lb, lit32, t_hasI, cp, Option.bind_some, if10, e1, nI_1, nI_add]
    rw [List.range_succ, List.flatMap_append] at ih
    simp only [List.flatMap_cons, List.flatMap_nil, List.append_nil] at ih
    have hskip : (if hi i then (wk B e hi lo (bD B) i 0 []).map (cy o i) else []) = [] → Ok (F_X12_shine_L89 K (nI (i + 1)) I J) (fun q => RM B ct wt (paS B e hi lo o) q.2.1 q.2.2) := by
      intro h0
      rw [h0] at ih
      exact ih I J hC (by simpa using hR) s1
    rcases hh i hi' with h | ⟨h1, h2⟩
    · rw [h]
      cases hhi : hi i with
      | false =>
        rw [if_pos rfl]
        exact hskip (by rw [hhi]; rfl)
      | true =>
        rw [if_neg (by simp)]
        rw [hhi] at ih
        have hok : ∀ q, q ∈ (List.range i).flatMap (fun w => if hi w then (wk B e hi lo (bD B) w 0 []).map (cy o w) else []) → okP q := by
          intro q hq
          apply paS_ok hB hE
          unfold paS
          rw [List.mem_flatMap] at hq ⊢
          obtain ⟨w, hw, hq⟩ := hq
          exact ⟨w, by rw [List.mem_range] at hw ⊢; omega, hq⟩
        have hbn : bnOk hi lo i ([] : List Nat).length (oshl (nI 1) (nI i)) := by
          intro v hv hb
          rw [t_ione (by omega)] at hb
          simp at hb
          subst hb
          exact Or.inl hhi
        have := (X12_goOn_ok hB hE ct wt hwo i hi' (bD B - 1) 20 [] 0 i (oshl (nI 1) (nI i)) _ I J (by omega) (by simp; omega) hi' (by omega) (by simp) hbn (fun _ => hhi) hok hC hR (fun k hk => by simp at hk)).fo (fr_X12_goOn _ _ _ _ _ _ _ _)
        refine Ok.call this (fun r I2 J2 _ hP => ?_)
        obtain ⟨⟨q1, q2, q3⟩, q4, q5⟩ := hP
        simp only at q1 q2 q3 q4 q5
        rw [show bD B - 1 + 1 = bD B by omega] at q1
        exact ih I2 J2 q3 (by simpa using q1) (Sm.tr rfl s1 q4)
    · rw [h1, if_pos rfl]
      apply hskip
      rw [show bD B = bD B - 1 + 1 by omega, wk_m, h2]
      simp
theorem RM_0 {B : Bd} {ct : Bool} {wt : Option Nat} {I : HI} {J : HJ} (h1 : ∀ k, k < bL B → J m_light k = lN 0) (h2 : I m_self f_Model_isCounted = b1 ct) (h3 : I m_self f_Model_asked = wtI wt) (h4 : ct = true → (∀ k, k < bL B → I m_through k = nI 0 ∧ J m_mostOne k = lN 0) ∧ (∀ w, w < bW B → J m_drawn w = lN 0) ∧ J m_self f_Model_bestCarry = lN 0) : RM B ct wt [] I J := by
  refine ⟨h1, h2, h3, fun hc => ?_⟩
  obtain ⟨g1, g2, g3⟩ := h4 hc
  exact ⟨g1, g2, fun a _ => ⟨g3, fun h => absurd rfl h⟩⟩

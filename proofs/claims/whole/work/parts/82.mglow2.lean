/-! LAYER 2: the reference's shine, glowing (4) -/
def c0M (ct : Bool) (wt : Option Nat) (I : HI) (J : HJ) : Prop := I m_self f_Model_isCounted = b1 ct ∧ I m_self f_Model_asked = wtI wt ∧ (ct = true → J m_self f_Model_bestCarry = lN 0)
theorem ohmsOf_eq {B : Bd} (hB : OkB B) {k a b : Nat} (hk : okK B k a b) {h l : Nat → Bool} {I : HI} (hM : MB B I) (hld : ldM B k a b I) (ho : k = 2 → I m_self f_Model_ohmsTouch = nI (ohE B k a b h l a)) (w : Nat) (hw : w < bW B) (J : HJ) : F_X12_ohmsOf (nI w) I J = some (nI (ohE B k a b h l w)) := by
  have hW := hB.2.1
  have hk3 : k ≤ 3 := by rcases hk with h | h | h | h <;> omega
  unfold F_X12_ohmsOf
  simp (disch := omega) only [lb, n_bx, n_cl, hld.1, lit32, n_eq]
  by_cases c2 : k = 2
  · have ha : a < bW B := by rcases hk with h | h | h | h <;> omega
    rw [if_pos c2]
    simp (disch := omega) only [hld.2.1 (by omega), n_eq]
    by_cases c : w = a
    · rw [if_pos c, ho c2, c]
    · rw [if_neg c, hM.2.2.2.2.2.1 w (by omega)]
      unfold ohE; rw [if_neg (fun hh => c hh.2.1)]
  · rw [if_neg c2, hM.2.2.2.2.2.1 w (by omega)]
    unfold ohE; rw [if_neg (fun hh => c2 hh.1)]
theorem X12_shine {B : Bd} (hB : OkB B) {f : Nat} (hf : f < nF B) (ct : Bool) (wt : Option Nat) (hwo : wtOk wt) (h l : Int32) (hd : okS (bi h) (bi l)) (I : HI) (J : HJ) (hM : MB B I) (hL : LD B (ftK (bW B) f) (ftA (bW B) f) (ftB (bW B) f) I) (hc0 : c0M ct wt I J) : Ok (F_X12_shine h l I J) (fun q => RM B ct wt (ptF B f (bi h) (bi l)) q.2.1 q.2.2) := by
  have hW := hB.2.1
  have h60 := hB.2.2.1
  have hk := okK_f hB hf
  unfold F_X12_shine
  refine X12_shine_L1 hB ct h l I J hM.2.1 hc0.1 _ _ ?_ bgf 0 (by omega) (by unfold bgf; omega) I J ⟨fun k hk => by omega, fun _ k hk => by omega⟩ Sm.rf Sm.rf
  intro I1 J1 z1 s1 s2
  have hM1 : MB B I1 := hM.keep (Ag.of s1 (by decide))
  refine X12_shine_L2 hB ct h l I1 J1 hM1.1 (by rw [s1 _ _ rfl]; exact hc0.1) _ _ ?_ bgf 0 (by omega) (by unfold bgf; omega) J1 ⟨fun _ w hw => by omega, Sm.rf⟩
  intro J2 z2 s3
  have hld1 : ldM B (ftK (bW B) f) (ftA (bW B) f) (ftB (bW B) f) I1 := ⟨by rw [s1 _ _ rfl]; exact hL.1.1, fun h => by rw [s1 _ _ rfl]; exact hL.1.2.1 h, fun h => by rw [s1 _ _ rfl]; exact hL.1.2.2 h⟩
  refine Ok.call ((X12_begin hB hk h l I1 J2 hM1 hld1).fo (fr_X12_begin h l I1 J2)) (fun r I3 J3 _ hP => ?_)
  obtain ⟨⟨b1', b2⟩, t1, t2⟩ := hP
  simp only at b1' b2 t1 t2
  have hR0 : RM B ct wt [] I3 J3 := by
    refine RM_0 (fun k hk => ?_) ?_ ?_ (fun hc => ⟨fun k hk => ?_, fun w hw => ?_, ?_⟩)
    · rw [t2 _ _ rfl, s3 _ _ rfl]; exact z1.1 k hk
    · rw [t1 _ _ rfl, s1 _ _ rfl]; exact hc0.1
    · rw [t1 _ _ rfl, s1 _ _ rfl]; exact hc0.2.1
    · rw [t1 _ _ rfl, t2 _ _ rfl, s3 _ _ rfl]; exact z1.2 hc k hk
    · rw [t2 _ _ rfl]; exact z2 hc w hw
    · rw [t2 _ _ rfl, s3 _ _ rfl, s2 _ _ rfl]; exact hc0.2.2 hc
  cases hc : cfl (ftK (bW B) f) (ftA (bW B) f) (ftB (bW B) f) (bi h) (bi l) with
  | true =>
    refine Ok.t (show r = 0 from b1' hc) ?_
    rw [ptF_c hc]
    exact Ok.mk hR0
  | false =>
    obtain ⟨r1, r2, r3, r4⟩ := b2 hc
    refine Ok.f (show ¬ r = 0 by rw [r1]; decide) ?_
    rw [ptF_n hc]
    have hE := EO_f hB hf hd hc
    have hM3 : MB B I3 := hM1.keep (Ag.of t1 (by decide))
    have hld3 : ldM B (ftK (bW B) f) (ftA (bW B) f) (ftB (bW B) f) I3 := ⟨by rw [t1 _ _ rfl]; exact hld1.1, fun h => by rw [t1 _ _ rfl]; exact hld1.2.1 h, fun h => by rw [t1 _ _ rfl]; exact hld1.2.2 h⟩
    have hML : MLs B (ed B (ftK (bW B) f) (ftA (bW B) f) (ftB (bW B) f)) I3 := by
      obtain ⟨m1, m2⟩ := hL.2
      refine ⟨fun w hw => by rw [t1 _ _ rfl, s1 _ _ rfl]; exact m1 w hw, fun w hw i hi => ?_⟩
      rw [t1 _ _ rfl, t1 _ _ rfl, s1 _ _ rfl, s1 _ _ rfl]; exact m2 w hw i hi
    have hbm : ∀ (g : Nat → Bool) v, (ftK (bW B) f = 1 → v ≠ ftA (bW B) f) → hbM (ftK (bW B) f) (ftA (bW B) f) (ftB (bW B) f) g v = hiE (ftK (bW B) f) (ftA (bW B) f) (ftB (bW B) f) g v := by
      intro g v hv
      unfold hbM
      by_cases c : ftK (bW B) f = 1
      · rw [if_pos c]
        have := hv c
        unfold hiE; rw [if_neg (by omega)]
        simp [this]
      · rw [if_neg c]
    have hed1 : ∀ k u v, ftK (bW B) f = 1 → ed B (ftK (bW B) f) (ftA (bW B) f) (ftB (bW B) f) k = some (u, v) → u ≠ ftA (bW B) f ∧ v ≠ ftA (bW B) f := by
      intro k u v c he
      rw [c] at he
      simp only [ed, if_true] at he
      split at he
      · cases he
      · rename_i hn
        simp only [Option.some.injEq, Prod.mk.injEq] at he
        rw [← he.1, ← he.2]
        exact ⟨fun h => hn (Or.inl h), fun h => hn (Or.inr h)⟩
    have hC : CMo B (ed B (ftK (bW B) f) (ftA (bW B) f) (ftB (bW B) f)) (hiE (ftK (bW B) f) (ftA (bW B) f) (ftB (bW B) f) (bi h)) (hiE (ftK (bW B) f) (ftA (bW B) f) (ftB (bW B) f) (bi l)) (ohE B (ftK (bW B) f) (ftA (bW B) f) (ftB (bW B) f) (bi h) (bi l)) I3 := by
      refine ⟨hM3.1, hM3.2.2.1, hM3.2.2.2.1, fun k hk => (hM3.2.2.2.2.2.2 k hk).2.2, fun w hw J => ohmsOf_eq hB hk hM3 hld3 r4 w hw J, hML, fun k u v hk' he => ?_⟩
      have hv := (hE.1 k u v hk' he).2.1
      rw [r2 v (by omega), r3 v (by omega)]
      have := fun c => (hed1 k u v c he).2
      exact ⟨hbm _ v this, hbm _ v this⟩
    refine X12_shine_L3 hB hE ct wt hwo I3 J3 (fun w hw => ?_) bgf 0 (by omega) (by unfold bgf; omega) I3 J3 hC (by simpa using hR0) Sm.rf
    by_cases c : ftK (bW B) f = 1 ∧ w = ftA (bW B) f
    · right
      refine ⟨?_, ?_⟩
      · rw [r2 w (by omega)]
        unfold hbM; rw [if_pos c.1]; simp [c.2]
      · unfold LFr
        rw [List.filter_eq_nil_iff]
        intro k _
        unfold nxL
        cases he : ed B (ftK (bW B) f) (ftA (bW B) f) (ftB (bW B) f) k with
        | none => simp
        | some uv =>
          obtain ⟨u, v⟩ := uv
          have := (hed1 k u v c.1 he).1
          simp [c.2, this]
    · left
      rw [r2 w (by omega)]
      exact hbm _ w (fun h1 h2 => c ⟨h1, h2⟩)
theorem X12_bright {B : Bd} (hB : OkB B) (ps : List Pa) (hbd : ∀ k, liT ps k < 10000000000000) (I : HI) (J : HJ) (hF : I m_sets 2 = nI (bF B)) (r1 : ∀ k, k < bL B → J m_light k = lN (liT ps k)) (k : Nat) (hk : k < bL B) : F_X12_isBright (nI k) I J = some (b1 (decide (0 < liT ps k) && decide (bF B * 27720 ≤ 100 * liT ps k))) := by
  have h60 := hB.2.2.1
  have h99 := hB.2.2.2.2.2.2.2.1
  have hb := hbd k
  unfold F_X12_isBright
  simp (disch := omega) only [n_bx, n_cl, lit32, litL, cmle, cml, r1 k hk, L_le, hF, n_l, lN_mul, L_lt]
  by_cases c : liT ps k ≤ 0
  · rw [if_pos c]
    have : ¬ 0 < liT ps k := by omega
    simp [this]; rfl
  · rw [if_neg c]
    have c' : 0 < liT ps k := by omega
    by_cases d : 100 * liT ps k < bF B * 27720
    · rw [if_pos d]
      have : ¬ bF B * 27720 ≤ 100 * liT ps k := by omega
      simp [this]; rfl
    · rw [if_neg d]
      have : bF B * 27720 ≤ 100 * liT ps k := by omega
      simp [this, c']; rfl
theorem X12_glow_L {B : Bd} (hB : OkB B) (ps : List Pa) (hbd : ∀ k, liT ps k < 10000000000000) (I : HI) (J : HJ) (hL : I m_self f_Model_lamps = nI (bL B)) (hF : I m_sets 2 = nI (bF B)) (r1 : ∀ k, k < bL B → J m_light k = lN (liT ps k)) :
    ∀ K i, i ≤ bL B → bL B - i < K → F_X12_glowing_L11 I J K (stN i (fun l => decide (0 < liT ps l) && decide (bF B * 27720 ≤ 100 * liT ps l))) (nI i) = some (gwT B ps, I, J) := by
  have h60 := hB.2.2.1
  refine up ?_ ?_
  · intro K
    rw [F_X12_glowing_L11, if_pos (by rw [hL, n_le] <;> omega)]
    rfl
  · intro K i hi ih
    rw [F_X12_glowing_L11, if_neg (by rw [hL, n_le] <;> omega), X12_bright hB ps hbd I J hF r1 i hi]
    simp only [cp, Option.bind_some, lb, lit32, litL, nI_1, nI_add]
    rw [stN_s] at ih
    cases hb : (decide (0 < liT ps i) && decide (bF B * 27720 ≤ 100 * liT ps i)) with
    | false =>
      rw [if_pos (show b1 false = nI 0 by decide)]
      rw [hb] at ih
      rw [show ∀ x : Int64, x ||| lN 0 = x from fun x => by
        apply bt_ext; intro k _; rw [bt_or, bt_z, Bool.or_false]]
      simpa using ih
    | true =>
      rw [if_neg (show ¬ b1 true = nI 0 by decide)]
      rw [hb] at ih
      simpa using ih
def mQ (B : Bd) (f : Nat) (h l : Int32) (q : Int64 × HI × HJ) : Prop := q.1 = gwF B f (bi h) (bi l)
theorem X12_glowing {B : Bd} (hB : OkB B) {f : Nat} (hf : f < nF B) (wt : Option Nat) (hwo : wtOk wt) (h l : Int32) (hd : okS (bi h) (bi l)) (I : HI) (J : HJ) (hM : MB B I) (hL : LD B (ftK (bW B) f) (ftA (bW B) f) (ftB (bW B) f) I) (hc0 : c0M false wt I J) : Ok (F_X12_glowing h l I J) (fun q => q.1 = gwF B f (bi h) (bi l) ∧ ∀ k, k < bL B → q.2.2 m_light k = lN (liT (ptF B f (bi h) (bi l)) k)) := by
  have h60 := hB.2.2.1
  unfold F_X12_glowing
  refine Ok.call ((X12_shine hB hf false wt hwo h l hd I J hM hL hc0).fo (fr_X12_shine h l I J)) (fun r I1 J1 _ hP => ?_)
  obtain ⟨q1, q2, q3⟩ := hP
  simp only at q1 q2 q3
  have hM1 : MB B I1 := hM.keep (Ag.of q2 (by decide))
  have := X12_glow_L hB (ptF B f (bi h) (bi l)) (ptF_ok hB hf hd).2.1 I1 J1 hM1.2.1 hM1.2.2.2.2.1 q1.1 bgf 0 (by omega) (by unfold bgf; omega)
  exact ⟨_, this, rfl, q1.1⟩
theorem X12_glowWith {B : Bd} (hB : OkB B) {f : Nat} (hf : f < nF B) (wt : Option Nat) (hwo : wtOk wt) (h l : Int32) (hd : okS (bi h) (bi l)) (I : HI) (J : HJ) (hM : MB B I) (hc0 : c0M false wt I J) : Ok (F_X12_glowingWith (nI f) h l I J) (fun q => q.1 = gwF B f (bi h) (bi l)) := by
  unfold F_X12_glowingWith
  refine Ok.call ((X12_lay hB hf I J hM).fo (fr_X12_lay _ I J)) (fun r I1 J1 _ hP => ?_)
  obtain ⟨q1, q2, q3⟩ := hP
  simp only at q1 q2 q3
  refine Ok.call (X12_glowing hB hf wt hwo h l hd I1 J1 (hM.keep (Ag.of q2 (by decide))) q1 ⟨by rw [q2 _ _ rfl]; exact hc0.1, by rw [q2 _ _ rfl]; exact hc0.2.1, fun h => by cases h⟩) (fun r I2 J2 _ hP => Ok.mk ?_)
  exact hP.1

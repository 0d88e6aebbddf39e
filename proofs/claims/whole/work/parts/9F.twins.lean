/-! LAYER 2: twins -/
theorem gS_hi {B : Bd} (hB : OkB B) {f s l : Nat} (h : bt (gS B f s) l = true) : l < bL B := by
  unfold gS gwF gwT at h
  by_cases c : l < bL B
  · exact c
  · rw [stN_b (by have := hB.2.2.1; omega)] at h
    simp [c] at h
def twE (B : Bd) (a l s : Nat) : Bool := !(bt (gS B 0 s) l == bt (gS B 0 s) a)
def twL (B : Bd) (a s : Nat) : Bool := bt (gS B 0 s) a
def tw (B : Bd) (a l : Nat) : Bool := decide (a < l) && (fsS (twE B a l) (3 ^ bW B)).isNone && (fsS (twL B a) (3 ^ bW B)).isSome
theorem tw_iff {B : Bd} {a l : Nat} : tw B a l = true ↔ a < l ∧ (∀ s, s < 3 ^ bW B → bt (gS B 0 s) l = bt (gS B 0 s) a) ∧ ∃ s, s < 3 ^ bW B ∧ bt (gS B 0 s) a = true := by
  unfold tw
  rw [Bool.and_eq_true, Bool.and_eq_true, decide_eq_true_eq, Option.isNone_iff_eq_none, fsS_none]
  constructor
  · rintro ⟨⟨h1, h2⟩, h3⟩
    refine ⟨h1, fun s hs => by have := h2 s hs; unfold twE at this; simpa using this, ?_⟩
    cases hf : fsS (twL B a) (3 ^ bW B) with
    | none => rw [hf] at h3; cases h3
    | some s => obtain ⟨q1, q2, _⟩ := fsS_some.mp hf; exact ⟨s, q1, q2⟩
  · rintro ⟨h1, h2, s, h3, h4⟩
    refine ⟨⟨h1, fun s hs => by unfold twE; simp [h2 s hs]⟩, ?_⟩
    cases hf : fsS (twL B a) (3 ^ bW B) with
    | none => rw [fsS_none.mp hf s h3 |> fun h => (show bt (gS B 0 s) a = false from h)] at h4; cases h4
    | some s => rfl
theorem tw_hi {B : Bd} (hB : OkB B) {a l : Nat} (h : tw B a l = true) : l < bL B := by
  obtain ⟨_, h2, s, h3, h4⟩ := tw_iff.mp h
  exact gS_hi hB (f := 0) (s := s) (by rw [h2 s h3]; exact h4)
theorem X8_like {B : Bd} {I : HI} {J : HJ} (hT : tabOk B I J) {a : Nat} (ha : a < 60) : Ok (F_X8_likeBehind (nI a) I J) (fun x => ∀ l, l < 64 → bt x l = tw B a l) := by
  have hp := p3_le hT.1
  unfold F_X8_likeBehind
  refine Ok.lbv ?_
  have hl : ∀ (kx : Int64 → Int32 → Option Int64) (Q : Int64 → Prop), (∀ x v, (∀ l, l < 64 → (bt x l = true ↔ a < l ∧ ∀ s, s < 3 ^ bW B → bt (gS B 0 s) l = bt (gS B 0 s) a)) → (x ≠ lN 0 → (v = true ↔ ∃ s, s < 3 ^ bW B ∧ bt (gS B 0 s) a = true)) → Ok (kx x (b1 v)) Q) → ∀ K k, k ≤ 3 ^ bW B → 3 ^ bW B - k < K → ∀ x v, (∀ l, l < 64 → (bt x l = true ↔ a < l ∧ ∀ s, s < k → bt (gS B 0 s) l = bt (gS B 0 s) a)) → (v = true ↔ ∃ s, s < k ∧ bt (gS B 0 s) a = true) → Ok (F_X8_likeBehind_L20 (nI a) I J kx K x (b1 v) (nI k)) Q := by
    intro kx Q hx
    refine up ?_ ?_
    · intro K x v h1 h2
      rw [F_X8_likeBehind_L20]
      exact Ok.t (by rw [hT.2.1, n_le] <;> omega) (hx x v h1 (fun _ => h2))
    · intro K k hk ih x v h1 h2
      rw [F_X8_likeBehind_L20]
      refine Ok.f (by rw [hT.2.1, n_le] <;> omega) ?_
      by_cases c : x = lN 0
      · refine Ok.t (lc0.mpr c) (hx x v (fun l hl => ⟨fun hh => ?_, fun hh => ?_⟩) (fun hh => absurd c hh))
        · rw [c, bt_z] at hh; cases hh
        · exact (h1 l hl).mpr ⟨hh.1, fun s hs => hh.2 s (by omega)⟩
      · refine Ok.f (fun h0 => c (lc0.mp h0)) (Ok.bxe (by omega) (by omega) (Ok.lbv ?_))
        rw [n_cl (by omega), (hT.2.2.1 k hk).1, show ((1 : Int64)) = lN 1 from rfl, t_u (by omega), nI_1]
        cases hb : bt (gS B 0 k) a with
        | false =>
          refine Ok.t (by rfl) (Ok.lbv (Ok.t rfl (Ok.bxe (by omega) (by omega) (Ok.lbv (Ok.lbv ?_)))))
          have e0 : b1 v ||| 0 = b1 v := Int32.or_zero
          rw [e0]
          refine ih _ v (fun l hl => ?_) ?_
          · rw [bt_and, show (-lN 1 : Int64) = -1 from rfl, bt_not hl, Bool.and_eq_true, h1 l hl]
            constructor
            · rintro ⟨⟨g1, g2⟩, g3⟩
              refine ⟨g1, fun s hs => ?_⟩
              by_cases cs : s = k
              · rw [cs, hb]; simpa using g3
              · exact g2 s (by omega)
            · rintro ⟨g1, g2⟩
              exact ⟨⟨g1, fun s hs => g2 s (by omega)⟩, by rw [g2 k (by omega), hb]; rfl⟩
          · rw [h2]
            constructor
            · rintro ⟨s, g1, g2⟩; exact ⟨s, by omega, g2⟩
            · rintro ⟨s, g1, g2⟩
              by_cases cs : s = k
              · rw [cs, hb] at g2; cases g2
              · exact ⟨s, by omega, g2⟩
        | true =>
          refine Ok.f (by decide) (Ok.lbv (Ok.f (by decide) (Ok.bxe (by omega) (by omega) (Ok.lbv (Ok.lbv ?_)))))
          have e0 : b1 v ||| 1 = b1 true := by cases v <;> rfl
          rw [e0]
          refine ih _ true (fun l hl => ?_) ⟨fun _ => ⟨k, by omega, hb⟩, fun _ => rfl⟩
          rw [bt_and, Bool.and_eq_true, h1 l hl]
          constructor
          · rintro ⟨⟨g1, g2⟩, g3⟩
            refine ⟨g1, fun s hs => ?_⟩
            by_cases cs : s = k
            · rw [cs, hb]; exact g3
            · exact g2 s (by omega)
          · rintro ⟨g1, g2⟩
            exact ⟨⟨g1, fun s hs => g2 s (by omega)⟩, by rw [g2 k (by omega), hb]⟩
  refine hl _ _ (fun x v h1 h2 => ?_) bgf 0 (Nat.zero_le _) (by unfold bgf; omega) _ false (fun l hl => ?_) ⟨fun h => (by cases h), fun ⟨s, h, _⟩ => (by omega)⟩
  · by_cases cx : x = lN 0
    · have hz : ∀ l, l < 64 → tw B a l = false := fun l hl => by
        cases ht : tw B a l with
        | false => rfl
        | true =>
          obtain ⟨g1, g2, _⟩ := tw_iff.mp ht
          have := (h1 l hl).mpr ⟨g1, g2⟩
          rw [cx, bt_z] at this; cases this
      refine Ok.ite (fun _ => Ok.mk (fun l hl => ?_)) (fun _ => Ok.mk (fun l hl => ?_))
      · rw [hz l hl]; exact bt_z l
      · rw [hz l hl, cx]; exact bt_z l
    · have h3 := h2 cx
      cases v with
      | false =>
        refine Ok.t rfl (Ok.mk (fun l hl => ?_))
        refine (bt_z l).trans ?_
        cases ht : tw B a l with
        | false => rfl
        | true =>
          obtain ⟨_, _, g3⟩ := tw_iff.mp ht
          have := h3.mpr g3; cases this
      | true =>
        refine Ok.f (by decide) (Ok.mk (fun l hl => ?_))
        rw [Bool.eq_iff_iff, h1 l hl, tw_iff]
        have := h3.mp rfl
        constructor
        · rintro ⟨g1, g2⟩; exact ⟨g1, g2, this⟩
        · rintro ⟨g1, g2, _⟩; exact ⟨g1, g2⟩
  · rw [bt_and, bt_not hl, show bt (olshl (-1) (nI a)) l = _ from bt_shl (by omega), show bt (olshl 1 (nI a)) l = _ from bt_one (by omega), Bool.and_eq_true]
    constructor
    · rintro ⟨g1, g2⟩
      refine ⟨?_, fun s hs => by omega⟩
      simp at g1 g2
      omega
    · rintro ⟨g1, _⟩
      refine ⟨?_, ?_⟩
      · rw [bt_m1 (by omega)]; simp; omega
      · simp; omega

def twC (B : Bd) : Nat → Nat
  | 0 => 0
  | a+1 => twC B a + pcP (bL B) (tw B a)
def twR (B : Bd) (a b : Nat) : List Int64 := match fsS (tw B a) b with | none => [] | some l => [Int32.toInt64 (nI a), Int32.toInt64 (nI l)]
def twW (B : Bd) : Nat → List Int64
  | 0 => []
  | a+1 => if twC B a = 0 then twR B a (bL B) else twW B a
theorem twC_le (B : Bd) (h60 : bL B ≤ 60) (a : Nat) : twC B a ≤ 60 * a := by
  induction a with
  | zero => exact Nat.le_refl _
  | succ a ih => have := pcP_le (bL B) (tw B a); show twC B a + pcP (bL B) (tw B a) ≤ _; omega
theorem twR_0 {B : Bd} {a b : Nat} (h : pcP b (tw B a) = 0) : twR B a b = [] := by
  unfold twR; rw [fsS_none.mpr (pcP_z h)]
theorem twW_0 {B : Bd} : ∀ {a : Nat}, twC B a = 0 → twW B a = []
  | 0, _ => rfl
  | a+1, h => by
    have h' : twC B a + pcP (bL B) (tw B a) = 0 := h
    show (if twC B a = 0 then twR B a (bL B) else twW B a) = []
    rw [if_pos (by omega), twR_0 (by omega)]
theorem X11_twins_L {B : Bd} (hB : OkB B) : ∀ K a, a ≤ bL B → bL B - a < K → ∀ I J, XB B I J → rfQ B I J → tX (twW B a) I J → Ok (F_X11_twins_L21 K (nI (twC B a)) (nI a) I J) (fun q => q.1 = nI (twC B (bL B)) ∧ CTab B q.2.1 q.2.2 ∧ CFlow q.2.1 q.2.2 ∧ tX (twW B (bL B)) q.2.1 q.2.2) := by
  have h60 := hB.2.2.1
  refine up ?_ ?_
  · intro K I J hX hR ht
    rw [F_X11_twins_L21]
    exact Ok.t (by rw [hX.2.1, n_le] <;> omega) (Ok.mk ⟨rfl, hR.tab, hR.2.2, ht⟩)
  · intro K a ha ih I J hX hR ht
    have hc := twC_le B h60 a
    rw [F_X11_twins_L21]
    refine Ok.f (by rw [hX.2.1, n_le] <;> omega) ?_
    obtain ⟨x, hx, hxb⟩ := X8_like hR.1 (a := a) (by omega)
    refine Ok.cpe hx (Ok.lbv ?_)
    have hpc : pc x = pcP (bL B) (tw B a) := by
      unfold pc
      rw [pcP_c (q := tw B a) hxb]
      refine pc_gap (by omega) (fun j h1 h2 => ?_)
      cases ht : tw B a j with
      | false => rfl
      | true => have := tw_hi hB ht; omega
    have ple := pcP_le (bL B) (tw B a)
    have fin : ∀ I2 J2, XB B I2 J2 → rfQ B I2 J2 → tX (twW B (a + 1)) I2 J2 → Ok (cp (F_J13_bitCount_95d88 x) fun r11 => lb ((nI (twC B a) + r11)) fun x12 => F_X11_twins_L21 K x12 (nI a + 1) I2 J2) (fun q => q.1 = nI (twC B (bL B)) ∧ CTab B q.2.1 q.2.2 ∧ CFlow q.2.1 q.2.2 ∧ tX (twW B (bL B)) q.2.1 q.2.2) := by
      intro I2 J2 hX2 hR2 ht2
      refine Ok.cpe (bcN x) (Ok.lbv ?_)
      rw [hpc, nI_1, nI_add]
      exact ih I2 J2 hX2 hR2 ht2
    by_cases c0 : twC B a = 0
    · refine Ok.t (by rw [c0]; rfl) ?_
      have hw0 := twW_0 c0
      rw [hw0] at ht
      have hw1 : twW B (a + 1) = twR B a (bL B) := if_pos c0
      by_cases cx : x = lN 0
      · refine Ok.t (lc0.mpr cx) (fin I J hX hR ?_)
        rw [hw1, twR_0 (by rw [← hpc, cx]; decide)]; exact ht
      · refine Ok.f (fun h0 => cx (lc0.mp h0)) ?_
        obtain ⟨k, k1, k2, k3, k4⟩ := ntN cx
        have hk : tw B a k = true := by rw [← hxb k k1]; exact k3
        have hfs : fsS (tw B a) (bL B) = some k := fsS_some.mpr ⟨tw_hi hB hk, hk, fun j hj => by rw [← hxb j (by omega)]; exact k4 j hj⟩
        refine add1 ht (by simp) (fun I3 J3 d1 d2 d3 => ?_)
        refine Ok.cpe k2 ?_
        refine add1 d1 (by simp) (fun I4 J4 e1 e2 e3 => ?_)
        refine fin I4 J4 ((hX.keep (Ag.of d2 (by decide)) (Ag.of d3 (by decide))).keep (Ag.of e2 (by decide)) (Ag.of e3 (by decide))) ((hR.k1 d2 d3).k1 e2 e3) ?_
        rw [hw1]; unfold twR; rw [hfs]; exact e1
    · refine Ok.f (fun h0 => c0 ?_) (fin I J hX hR ?_)
      · have h0' : nI (twC B a) = nI 0 := h0
        rwa [n_eq (by omega) (by omega)] at h0'
      · rw [show twW B (a + 1) = twW B a from if_neg c0]; exact ht
/-- the reference compares two lamps -/
theorem X12_twins_P {B : Bd} (hW : bW B ≤ 7) {I : HI} {J : HJ} {l1 : Int32} {a l : Nat} (ha : a < 60) (hl : l < 60) (hal : a < l) (hst : F_X12_settings I J = some (nI (3 ^ bW B))) (hg : ∀ s, s < 3 ^ bW B → J m_glow s = gS B 0 s) {kx : Int32 → Int32 → Option (Int32 × HI × HJ)} {Q : Int32 × HI × HJ → Prop} (hx : ∀ u v, ((u = true ∧ v = true) ↔ tw B a l = true) → Ok (kx (b1 u) (b1 v)) Q) : ∀ K k, k ≤ 3 ^ bW B → 3 ^ bW B - k < K → ∀ u v, (v = true ↔ ∀ s, s < k → bt (gS B 0 s) l = bt (gS B 0 s) a) → (u = true ↔ ∃ s, s < k ∧ bt (gS B 0 s) a = true) → Ok (F_X12_twins_L57 l1 (nI a) (nI l) I J kx K (b1 u) (b1 v) (nI k)) Q := by
  have hp := p3_le hW
  refine up ?_ ?_
  · intro K u v h1 h2
    rw [F_X12_twins_L57]
    refine Ok.cpe hst (Ok.t (by rw [n_le] <;> omega) (hx u v ?_))
    rw [h1, h2, tw_iff]
    exact ⟨fun ⟨g1, g2⟩ => ⟨hal, g2, g1⟩, fun ⟨_, g2, g1⟩ => ⟨g1, g2⟩⟩
  · intro K k hk ih u v h1 h2
    rw [F_X12_twins_L57]
    refine Ok.cpe hst (Ok.f (by rw [n_le] <;> omega) ?_)
    cases v with
    | false =>
      refine Ok.t rfl (hx u false ⟨fun ⟨_, h⟩ => (by cases h), fun h => ?_⟩)
      obtain ⟨_, g2, _⟩ := tw_iff.mp h
      have := h1.mpr (fun s hs => g2 s (by omega)); cases this
    | true =>
      have h1' := h1.mp rfl
      refine Ok.f (by decide) (Ok.bxe (by omega) (by omega) ?_)
      rw [n_cl (by omega), hg k hk]
      refine Ok.cpe (t_has (by omega)) (Ok.bxe (by omega) (by omega) (Ok.cpe (t_has (by omega)) (Ok.lbv ?_)))
      have body : ∀ y v', y = b1 v' → (v' = true ↔ ∀ s, s < k + 1 → bt (gS B 0 s) l = bt (gS B 0 s) a) → Ok (lb (fun (y15 : Int32) => F_X12_twins_L57 l1 (nI a) (nI l) I J kx K y15 y (nI k + 1)) fun j16 => lb (j16 (1 : Int32)) fun j17 => if b1 u = 0 then bx (nI k) 2187 <| cp (F_X12_has (gS B 0 k) (nI a)) fun r18 => if r18 = 0 then j16 (0 : Int32) else j17 else j17) Q := by
        intro y v' hy hv'
        subst hy
        refine Ok.lbv (Ok.lbv ?_)
        rw [nI_1]
        have hyes : (∃ s, s < k + 1 ∧ bt (gS B 0 s) a = true) → Ok (F_X12_twins_L57 l1 (nI a) (nI l) I J kx K 1 (b1 v') (nI (k + 1))) Q := fun he => ih true v' hv' ⟨fun _ => he, fun _ => rfl⟩
        cases u with
        | true =>
          obtain ⟨s, q1, q2⟩ := h2.mp rfl
          exact Ok.f (by decide) (hyes ⟨s, by omega, q2⟩)
        | false =>
          refine Ok.t rfl (Ok.bxe (by omega) (by omega) (Ok.cpe (t_has (by omega)) ?_))
          cases hb : bt (gS B 0 k) a with
          | true => exact Ok.f (by decide) (hyes ⟨k, by omega, hb⟩)
          | false =>
            refine Ok.t (by rfl) (ih false v' hv' ⟨fun h => (by cases h), fun ⟨s, q1, q2⟩ => ?_⟩)
            by_cases cs : s = k
            · rw [cs, hb] at q2; cases q2
            · exact h2.mpr ⟨s, by omega, q2⟩
      have hnext : (bt (gS B 0 k) l = bt (gS B 0 k) a) ↔ ∀ s, s < k + 1 → bt (gS B 0 s) l = bt (gS B 0 s) a := ⟨fun he s hs => by
          by_cases cs : s = k
          · rw [cs]; exact he
          · exact h1' s (by omega), fun h => h k (by omega)⟩
      by_cases he : bt (gS B 0 k) l = bt (gS B 0 k) a
      · refine Ok.t (by rw [he]) (body 1 true rfl ⟨fun _ => hnext.mp he, fun _ => rfl⟩)
      · refine Ok.f ?_ (body 0 false rfl ⟨fun h => (by cases h), fun h => absurd (hnext.mpr h) he⟩)
        revert he
        cases bt (gS B 0 k) l <;> cases bt (gS B 0 k) a <;> intro he
        · exact absurd rfl he
        · decide
        · decide
        · exact absurd rfl he
theorem X12_twins_I {B : Bd} (hB : OkB B) (hW : bW B ≤ 7) {a : Nat} (ha : a < bL B) {kx : Int32 → HI → HJ → Option (Int32 × HI × HJ)} {Q : Int32 × HI × HJ → Prop} (hx : ∀ I J, MB B I → CMod I → (∀ s, s < 3 ^ bW B → J m_glow s = gS B 0 s) → tM (twW B (a + 1)) I J → Ok (kx (nI (twC B (a + 1))) I J) Q) : ∀ K l, l ≤ bL B → bL B - l < K → a < l → ∀ I J, MB B I → CMod I → (∀ s, s < 3 ^ bW B → J m_glow s = gS B 0 s) → tM (if twC B a = 0 then twR B a l else twW B a) I J → Ok (F_X12_twins_L40 (nI a) kx K (nI (twC B a + pcP l (tw B a))) (nI l) I J) Q := by
  have h60 := hB.2.2.1
  have hc := twC_le B h60 a
  refine up ?_ ?_
  · intro K _ I J hM hMo hg ht
    rw [F_X12_twins_L40]
    exact Ok.t (by rw [hM.2.1, n_le] <;> omega) (hx I J hM hMo hg ht)
  · intro K l hl ih hal I J hM hMo hg ht
    have ple := pcP_le l (tw B a)
    rw [F_X12_twins_L40]
    refine Ok.f (by rw [hM.2.1, n_le] <;> omega) ?_
    rw [pcP_s] at ih
    refine X12_twins_P hW (by omega) (by omega) hal (X12_settings _ hW hM.1) hg (fun u v huv => ?_) bgf 0 (Nat.zero_le _) (by have := p3_le hW; unfold bgf; omega) false true ⟨fun _ s hs => (by omega), fun _ => rfl⟩ ⟨fun h => (by cases h), fun ⟨s, h, _⟩ => (by omega)⟩
    refine Ok.lbv ?_
    rw [nI_1]
    have hnot : tw B a l = false → Ok (F_X12_twins_L40 (nI a) kx K (nI (twC B a + pcP l (tw B a))) (nI (l + 1)) I J) Q := by
      intro hf
      have hr : twR B a (l + 1) = twR B a l := by
        unfold twR fsS; rw [List.range_succ, List.find?_append]
        cases (List.range l).find? (tw B a) with
        | none => simp [hf]
        | some x => rfl
      rw [hf, hr] at ih
      exact ih (by omega) I J hM hMo hg ht
    cases v with
    | false =>
      refine Ok.t rfl (hnot ?_)
      cases hh : tw B a l with
      | false => rfl
      | true => have := (huv.mpr hh).2; cases this
    | true =>
      refine Ok.f (by decide) ?_
      cases u with
      | false =>
        refine Ok.t rfl (hnot ?_)
        cases hh : tw B a l with
        | false => rfl
        | true => have := (huv.mpr hh).1; cases this
      | true =>
        have hyes : tw B a l = true := huv.mp ⟨rfl, rfl⟩
        rw [hyes] at ih
        simp only [if_true] at ih
        refine Ok.f (by decide) (Ok.lbv ?_)
        rw [nI_1]
        by_cases cz : twC B a + pcP l (tw B a) = 0
        · have ca : twC B a = 0 := by omega
          have hz := pcP_z (show pcP l (tw B a) = 0 by omega)
          rw [if_pos ca, twR_0 (by omega)] at ht
          have hfs : fsS (tw B a) (l + 1) = some l := fsS_some.mpr ⟨by omega, hyes, fun j hj => hz j hj⟩
          refine Ok.t (show nI (twC B a + pcP l (tw B a)) = 0 by rw [cz]; rfl) ?_
          refine tel1 ht (by simp) (fun I3 J3 d1 d2 d3 => ?_)
          refine tel1 d1 (by simp) (fun I4 J4 e1 e2 e3 => ?_)
          refine ih (by omega) I4 J4 ((hM.keep (Ag.of d2 (by decide))).keep (Ag.of e2 (by decide))) ((hMo.k1 d2).k1 e2) (fun s hs => by rw [e3 _ _ rfl, d3 _ _ rfl]; exact hg s hs) ?_
          rw [if_pos ca]; unfold twR; rw [hfs]; exact e1
        · refine Ok.f (fun h0 => cz ?_) ?_
          · have h0' : nI (twC B a + pcP l (tw B a)) = nI 0 := h0
            rwa [n_eq (by omega) (by omega)] at h0'
          · refine ih (by omega) I J hM hMo hg ?_
            by_cases ca : twC B a = 0
            · rw [if_pos ca] at ht ⊢
              have hr : twR B a (l + 1) = twR B a l := by
                unfold twR fsS; rw [List.range_succ, List.find?_append]
                cases hf : (List.range l).find? (tw B a) with
                | none =>
                  have := pcP_0 (fun k hk => fsS_none.mp (show fsS (tw B a) l = none from hf) k hk)
                  omega
                | some x => rfl
              rw [hr]; exact ht
            · rw [if_neg ca] at ht ⊢; exact ht
theorem X12_twins_O {B : Bd} (hB : OkB B) (hW : bW B ≤ 7) : ∀ K a, a ≤ bL B → bL B - a < K → ∀ I J, MB B I → CMod I → (∀ s, s < 3 ^ bW B → J m_glow s = gS B 0 s) → tM (twW B a) I J → Ok (F_X12_twins_L28 K (nI (twC B a)) (nI a) I J) (fun q => q.1 = nI (twC B (bL B)) ∧ CMod q.2.1 ∧ tM (twW B (bL B)) q.2.1 q.2.2) := by
  have h60 := hB.2.2.1
  refine up ?_ ?_
  · intro K I J hM hMo hg ht
    rw [F_X12_twins_L28]
    exact Ok.t (by rw [hM.2.1, n_le] <;> omega) (Ok.mk ⟨rfl, hMo, ht⟩)
  · intro K a ha ih I J hM hMo hg ht
    rw [F_X12_twins_L28]
    refine Ok.f (by rw [hM.2.1, n_le] <;> omega) (Ok.lbv ?_)
    rw [nI_1]
    have hz : pcP (a + 1) (tw B a) = 0 := pcP_0 (fun k hk => by unfold tw; rw [decide_eq_false (by omega)]; rfl)
    have := X12_twins_I hB hW ha (kx := fun (y32 : Int32) (I33 : HI) (J34 : HJ) => F_X12_twins_L28 K y32 (nI (a + 1)) I33 J34) (Q := fun q => q.1 = nI (twC B (bL B)) ∧ CMod q.2.1 ∧ tM (twW B (bL B)) q.2.1 q.2.2) (fun I2 J2 hM2 hMo2 hg2 ht2 => ih I2 J2 hM2 hMo2 hg2 ht2) bgf (a + 1) (by omega) (by unfold bgf; omega) (by omega) I J hM hMo hg (by
      by_cases ca : twC B a = 0
      · rw [if_pos ca, twR_0 hz]; rw [twW_0 ca] at ht; exact ht
      · rw [if_neg ca]; exact ht)
    rw [hz] at this
    exact this

theorem OP21 (n : Nat) (b : Bool) (I : HI) (J : HJ) (a1 a2 a3 a4 : Int32) (h : Iv (n + 1) b I J) : Op21 (Iv n) b I J a1 a2 a3 a4 := by
  obtain ⟨B, nb, h⟩ := h
  have hB := h.1
  have h60 := hB.2.2.1
  have hX := h.2.1
  have hM0 := h.2.2.1
  have hTF := h.2.2.2.2.2.2.2.2.2
  have hN := h.2.2.2.2.1

  by_cases hW : bW B ≤ 7
  · have hp := p3_le hW
    skip
    refine srch h (fr_X11_twins I J) (fun I1 J1 => fr_X12_twins I1 J1) (by decide) (nI (twC B (bL B))) (some (twW B (bL B))) ?_ ?_
    · unfold F_X11_twins
      refine openX hB hW hX hTF.1 hTF.2.1 (fun I3 J4 hX3 hR s1 s2 => ?_)
      refine clr1 (fun I5 c1 c2 => ?_)
      exact X11_twins_L hB bgf 0 (Nat.zero_le _) (by unfold bgf; omega) I5 J4 (hX3.keep (Ag.of c2 (by decide)) (fun _ _ _ => rfl)) (hR.k1 c2 Sm.rf) c1
    · intro I1 J1 hM hMo u1 u2
      have sT := th_s I1 0
      have hM2 : MB B (ui I1 m_self f_Model_thrown 0) := hM.keep (Ag.of sT (by decide))
      unfold F_X12_twins
      refine Ok.lbv (Ok.cpe ((X12_can hB _ _ hM2).1 hW) (Ok.f (by decide) (allM hB hW hM2 (hMo.keep (Ag.of sT (by decide))) (fun I3 J4 hM3 hMo3 hfa hst t1 t2 => ?_))))
      refine clrM (J := J4) (fun I6 c1 c2 => ?_)
      exact X12_twins_O hB hW bgf 0 (Nat.zero_le _) (by unfold bgf; omega) I6 J4 (hM3.keep (Ag.of c2 (by decide))) (hMo3.k1 c2) (fun s hs => (hfa s hs).1) c1
  · refine srch h (fr_X11_twins I J) (fun I1 J1 => fr_X12_twins I1 J1) (by decide) (-3) none ?_ ?_
    · unfold F_X11_twins
      exact noX hB hW hX (Ok.mk ⟨rfl, hTF.1, hTF.2.1, rfl, rfl⟩)
    · intro I1 J1 hM hMo u1 u2
      have sT := th_s I1 0
      have hM2 : MB B (ui I1 m_self f_Model_thrown 0) := hM.keep (Ag.of sT (by decide))
      unfold F_X12_twins
      exact Ok.lbv (Ok.cpe ((X12_can hB _ _ hM2).2 hW) (Ok.t (by decide) (Ok.mk ⟨rfl, hMo.keep (Ag.of sT (by decide)), toM_o sT (Sm.rf (w := [])) (by decide) (by decide)⟩)))

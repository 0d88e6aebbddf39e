/-! LAYER 2: tree: how many tests find the group -/
def alD (T : Nat) (an : Nat → Nat → Int64) (u i j : Nat) : Prop := ∀ t, t < T → u.testBit t = true → an t i = an t j
theorem alD.rf {T : Nat} {an : Nat → Nat → Int64} {u i : Nat} : alD T an u i i := fun _ _ _ => rfl
theorem alD.sy {T : Nat} {an : Nat → Nat → Int64} {u i j : Nat} (h : alD T an u i j) : alD T an u j i := fun t a b => (h t a b).symm
theorem alD.tr {T : Nat} {an : Nat → Nat → Int64} {u i j k : Nat} (h : alD T an u i j) (g : alD T an u j k) : alD T an u i k := fun t a b => (h t a b).trans (g t a b)
theorem tb_or {u t j : Nat} : (u ||| 2 ^ t).testBit j = (u.testBit j || decide (t = j)) := by
  rw [Nat.testBit_or, Nat.testBit_two_pow]
theorem alD_or {T : Nat} {an : Nat → Nat → Int64} {u t i j : Nat} (ht : t < T) : alD T an (u ||| 2 ^ t) i j ↔ alD T an u i j ∧ an t i = an t j := by
  constructor
  · intro h
    exact ⟨fun s a b => h s a (by rw [tb_or, b]; rfl), h t ht (by rw [tb_or]; simp)⟩
  · rintro ⟨h1, h2⟩ s a b
    rw [tb_or, Bool.or_eq_true, decide_eq_true_eq] at b
    rcases b with b | b
    · exact h1 s a b
    · rw [← b]; exact h2
def canD (T N : Nat) (an : Nat → Nat → Int64) : Nat → Nat → Nat → Prop
  | 0, u, i => ∀ t, t < T → ∀ j, j < N → alD T an u i j → an t j = an t i
  | d+1, u, i => canD T N an d u i ∨ ∃ t, t < T ∧ u.testBit t = false ∧ ∀ j, j < N → alD T an u i j → canD T N an d (u ||| 2 ^ t) j
theorem canD_mo {T N : Nat} {an : Nat → Nat → Int64} {d e u i : Nat} (h : canD T N an d u i) (he : d ≤ e) : canD T N an e u i := by
  induction e with
  | zero => have : d = 0 := by omega
            rw [this] at h; exact h
  | succ e ih =>
    by_cases c : d = e + 1
    · rw [c] at h; exact h
    · exact Or.inl (ih (by omega))
theorem canD_al {T N : Nat} {an : Nat → Nat → Int64} : ∀ {d u i j : Nat}, j < N → alD T an u i j → canD T N an d u i → canD T N an d u j
  | 0, u, i, j, hj, ha, h => fun t ht k hk hjk => (h t ht k hk (ha.tr hjk)).trans (h t ht j hj ha).symm
  | d+1, u, i, j, hj, ha, h => by
    rcases h with h | ⟨t, h1, h2, h3⟩
    · exact Or.inl (canD_al hj ha h)
    · exact Or.inr ⟨t, h1, h2, fun k hk hjk => h3 k hk (ha.tr hjk)⟩
theorem canD_all {T N : Nat} {an : Nat → Nat → Int64} : ∀ (k u i : Nat), pcP T (fun t => !u.testBit t) ≤ k → canD T N an k u i
  | 0, u, i, h => by
    intro t ht j hj ha
    have hb : u.testBit t = true := by
      cases hb : u.testBit t with
      | true => rfl
      | false =>
        have := pcP_z (show pcP T (fun t => !u.testBit t) = 0 by omega) t ht
        simp only [hb] at this
        cases this
    exact (ha t ht hb).symm
  | k+1, u, i, h => by
    by_cases c : pcP T (fun t => !u.testBit t) = 0
    · exact Or.inl (canD_all k u i (by omega))
    · obtain ⟨t, t1, t2⟩ := pcP_ex (n := T) (p := fun t => !u.testBit t) (by omega)
      have hd := pcP_del (p := fun t => !u.testBit t) t1 t2
      refine Or.inr ⟨t, t1, by simpa using t2, fun j _ _ => canD_all k (u ||| 2 ^ t) j ?_⟩
      have e : (fun s => !(u ||| 2 ^ t).testBit s) = (fun s => (!u.testBit s) && !decide (s = t)) := by
        funext s
        rw [tb_or, Bool.not_or]
        by_cases c : s = t
        · subst c; simp
        · have : ¬ t = s := fun e => c e.symm
          simp [c, this]
      rw [e]; omega
theorem canD_T {T N : Nat} {an : Nat → Nat → Int64} (u i : Nat) : canD T N an T u i := canD_all T u i (pcP_le T _)
theorem canD_eq {T N : Nat} {an : Nat → Nat → Int64} : ∀ {d u u' i : Nat}, i < N → (∀ t, u.testBit t = true → u'.testBit t = true) → (∀ j, j < N → alD T an u i j → alD T an u' i j) → canD T N an d u' i → canD T N an d u i
  | 0, u, u', i, _, _, h2, h => fun t ht j hj ha => h t ht j hj (h2 j hj ha)
  | d+1, u, u', i, hi, h1, h2, h => by
    rcases h with h | ⟨t, g1, g2, g3⟩
    · exact Or.inl (canD_eq hi h1 h2 h)
    · have ht : u.testBit t = false := by
        cases hb : u.testBit t with
        | false => rfl
        | true => have := h1 t hb; rw [g2] at this; cases this
      refine Or.inr ⟨t, g1, ht, fun j hj ha => canD_eq (u' := u' ||| 2 ^ t) hj (fun s hs => ?_) (fun k hk hjk => ?_) (g3 j hj (h2 j hj ha))⟩
      · rw [tb_or, Bool.or_eq_true] at hs ⊢
        rcases hs with hs | hs
        · exact Or.inl (h1 s hs)
        · exact Or.inr hs
      · rw [alD_or g1] at hjk ⊢
        have hik := h2 k hk (ha.tr hjk.1)
        exact ⟨(h2 j hj ha).sy.tr hik, hjk.2⟩
/-- a test that doesn't part is no help -/
theorem canD_np {T N : Nat} {an : Nat → Nat → Int64} {d u t i : Nat} (hi : i < N) (ht : t < T) (hp : ∀ j, j < N → alD T an u i j → an t j = an t i) (h : canD T N an d (u ||| 2 ^ t) i) : canD T N an d u i :=
  canD_eq hi (fun s hs => by rw [tb_or, hs]; rfl) (fun j hj ha => (alD_or ht).mpr ⟨ha, (hp j hj ha).symm⟩) h
def ldD (T N : Nat) (an : Nat → Nat → Int64) (u i v : Nat) : Prop := canD T N an v u i ∧ ∀ w, w < v → ¬ canD T N an w u i
theorem ldD_u {T N : Nat} {an : Nat → Nat → Int64} {u i v w : Nat} (h : ldD T N an u i v) (g : ldD T N an u i w) : v = w := by
  rcases Nat.lt_trichotomy v w with c | c | c
  · exact absurd h.1 (g.2 v c)
  · exact c
  · exact absurd g.1 (h.2 w c)
theorem ldD_ge {T N : Nat} {an : Nat → Nat → Int64} {u i v w : Nat} (h : ldD T N an u i v) (g : canD T N an w u i) : v ≤ w := by
  by_cases c : v ≤ w
  · exact c
  · exact absurd g (h.2 w (by omega))
theorem ldD_ex (T N : Nat) (an : Nat → Nat → Int64) (u i : Nat) : ∃ v, v ≤ T ∧ ldD T N an u i v := by
  have lst : ∀ n, (∃ v, v < n ∧ ldD T N an u i v) ∨ ∀ w, w < n → ¬ canD T N an w u i := by
    intro n
    induction n with
    | zero => exact Or.inr (fun w h => by omega)
    | succ n ih =>
      rcases ih with ⟨v, a, b⟩ | h
      · exact Or.inl ⟨v, by omega, b⟩
      · by_cases c : canD T N an n u i
        · exact Or.inl ⟨n, by omega, c, h⟩
        · refine Or.inr (fun w hw => ?_)
          by_cases e : w = n
          · rw [e]; exact c
          · exact h w (by omega)
  rcases lst (T + 1) with ⟨v, a, b⟩ | h
  · exact ⟨v, by omega, b⟩
  · exact absurd (canD_T u i) (h T (by omega))
theorem ldD_le {T N : Nat} {an : Nat → Nat → Int64} {u i v : Nat} (h : ldD T N an u i v) : v ≤ T := ldD_ge h (canD_T u i)
theorem ldD_al {T N : Nat} {an : Nat → Nat → Int64} {u i j v : Nat} (hi : i < N) (hj : j < N) (ha : alD T an u i j) (h : ldD T N an u i v) : ldD T N an u j v := ⟨canD_al hj ha h.1, fun w hw hc => h.2 w hw (canD_al hi ha.sy hc)⟩
/-- P: the test t, then w more -/
def okT (T N : Nat) (an : Nat → Nat → Int64) (u i w t : Nat) : Prop := ∀ j, j < N → alD T an u i j → canD T N an w (u ||| 2 ^ t) j
def ptD (T N : Nat) (an : Nat → Nat → Int64) (u i t : Nat) : Prop := ∃ j, j < N ∧ alD T an u i j ∧ an t j ≠ an t i
theorem ldD_pt {T N : Nat} {an : Nat → Nat → Int64} {u i v t : Nat} (hi : i < N) (ht : t < T) (h : ldD T N an u i (v + 1)) (hk : okT T N an u i v t) : ptD T N an u i t := by
  by_cases c : ∀ j, j < N → alD T an u i j → an t j = an t i
  · exact absurd (canD_np hi ht c (hk i hi alD.rf)) (h.2 v (by omega))
  · by_cases d : ptD T N an u i t
    · exact d
    · refine absurd (fun j hj ha => ?_) c
      by_cases e : an t j = an t i
      · exact e
      · exact absurd ⟨j, hj, ha, e⟩ d
/-- the least, from what was looked at -/
theorem ldD_fin {T N : Nat} {an : Nat → Nat → Int64} {u i v big : Nat} (hi : i < N) (hb : T ≤ big) (hv : v ≤ big) (h0 : ¬ canD T N an 0 u i) (h1 : v < big → canD T N an v u i) (h2 : ∀ t, t < T → u.testBit t = false → ptD T N an u i t → ∀ w, okT T N an u i w t → v ≤ w + 1) : ldD T N an u i v := by
  obtain ⟨w, hw, hl⟩ := ldD_ex T N an u i
  have hvw : v ≤ w := by
    cases w with
    | zero => exact absurd hl.1 h0
    | succ w =>
      rcases hl.1 with hc | ⟨t, g1, g2, g3⟩
      · exact absurd hc (hl.2 w (by omega))
      · exact h2 t g1 g2 (ldD_pt hi g1 hl g3) w g3
  have : v = w := by
    by_cases c : v < big
    · have := ldD_ge hl (h1 c); omega
    · omega
  rw [this]; exact hl
/-- the first test of a shortest way, -1 where none is needed -/
def ftQ (T N : Nat) (an : Nat → Nat → Int64) (u i : Nat) (r : Option Nat) : Prop := (canD T N an 0 u i ∧ r = none) ∨ (∃ v t, ldD T N an u i (v + 1) ∧ t < T ∧ u.testBit t = false ∧ okT T N an u i v t ∧ (∀ s, s < t → u.testBit s = false → ¬ okT T N an u i v s) ∧ r = some t)
theorem ftQ_u {T N : Nat} {an : Nat → Nat → Int64} {u i : Nat} {r s : Option Nat} (h : ftQ T N an u i r) (g : ftQ T N an u i s) : r = s := by
  rcases h with ⟨a1, a2⟩ | ⟨v, t, a1, a2, a3, a4, a5, a6⟩
  · rcases g with ⟨b1, b2⟩ | ⟨v, t, b1, _⟩
    · rw [a2, b2]
    · exact absurd a1 (b1.2 0 (by omega))
  · rcases g with ⟨b1, b2⟩ | ⟨v', t', b1, b2, b3, b4, b5, b6⟩
    · exact absurd b1 (a1.2 0 (by omega))
    · have := ldD_u a1 b1
      have hv : v = v' := by omega
      subst hv
      rw [a6, b6]
      rcases Nat.lt_trichotomy t t' with c | c | c
      · exact absurd a4 (b5 t c a3)
      · rw [c]
      · exact absurd b4 (a5 t' c b3)
theorem okT_al {T N : Nat} {an : Nat → Nat → Int64} {u i j w t : Nat} (ha : alD T an u i j) (h : okT T N an u i w t) : okT T N an u j w t := fun k hk hjk => h k hk (ha.tr hjk)
theorem ftQ_al {T N : Nat} {an : Nat → Nat → Int64} {u i j : Nat} {r : Option Nat} (hi : i < N) (hj : j < N) (ha : alD T an u i j) (h : ftQ T N an u i r) : ftQ T N an u j r := by
  rcases h with ⟨a1, a2⟩ | ⟨v, t, a1, a2, a3, a4, a5, a6⟩
  · exact Or.inl ⟨canD_al hj ha a1, a2⟩
  · exact Or.inr ⟨v, t, ldD_al hi hj ha a1, a2, a3, okT_al ha a4, fun s hs hb hk => a5 s hs hb (okT_al ha.sy hk), a6⟩
/-- groups stand for what they hold -/
def bsD (T N G : Nat) (an bn : Nat → Nat → Int64) (gp : Nat → Nat) : Prop := (∀ i, i < N → gp i < G ∧ ∀ t, t < T → an t i = bn t (gp i)) ∧ ∀ g, g < G → ∃ i, i < N ∧ gp i = g
theorem al_bi {T N G : Nat} {an bn : Nat → Nat → Int64} {gp : Nat → Nat} (hb : bsD T N G an bn gp) {u i j : Nat} (hi : i < N) (hj : j < N) : alD T an u i j ↔ alD T bn u (gp i) (gp j) := by
  constructor
  · intro h t ht hu
    rw [← (hb.1 i hi).2 t ht, ← (hb.1 j hj).2 t ht]; exact h t ht hu
  · intro h t ht hu
    rw [(hb.1 i hi).2 t ht, (hb.1 j hj).2 t ht]; exact h t ht hu
theorem can_bi {T N G : Nat} {an bn : Nat → Nat → Int64} {gp : Nat → Nat} (hb : bsD T N G an bn gp) : ∀ {d u i : Nat}, i < N → (canD T N an d u i ↔ canD T G bn d u (gp i))
  | 0, u, i, hi => by
    constructor
    · intro h t ht g hg ha
      obtain ⟨j, hj, rfl⟩ := hb.2 g hg
      rw [← (hb.1 i hi).2 t ht, ← (hb.1 j hj).2 t ht]
      exact h t ht j hj ((al_bi hb hi hj).mpr ha)
    · intro h t ht j hj ha
      rw [(hb.1 i hi).2 t ht, (hb.1 j hj).2 t ht]
      exact h t ht (gp j) (hb.1 j hj).1 ((al_bi hb hi hj).mp ha)
  | d+1, u, i, hi => by
    constructor
    · rintro (h | ⟨t, h1, h2, h3⟩)
      · exact Or.inl ((can_bi hb hi).mp h)
      · refine Or.inr ⟨t, h1, h2, fun g hg ha => ?_⟩
        obtain ⟨j, hj, rfl⟩ := hb.2 g hg
        exact (can_bi hb hj).mp (h3 j hj ((al_bi hb hi hj).mpr ha))
    · rintro (h | ⟨t, h1, h2, h3⟩)
      · exact Or.inl ((can_bi hb hi).mpr h)
      · exact Or.inr ⟨t, h1, h2, fun j hj ha => (can_bi hb hj).mpr (h3 (gp j) (hb.1 j hj).1 ((al_bi hb hi hj).mp ha))⟩
theorem ld_bi {T N G : Nat} {an bn : Nat → Nat → Int64} {gp : Nat → Nat} (hb : bsD T N G an bn gp) {u i v : Nat} (hi : i < N) : ldD T N an u i v ↔ ldD T G bn u (gp i) v :=
  ⟨fun h => ⟨(can_bi hb hi).mp h.1, fun w hw hc => h.2 w hw ((can_bi hb hi).mpr hc)⟩, fun h => ⟨(can_bi hb hi).mpr h.1, fun w hw hc => h.2 w hw ((can_bi hb hi).mp hc)⟩⟩
theorem ok_bi {T N G : Nat} {an bn : Nat → Nat → Int64} {gp : Nat → Nat} (hb : bsD T N G an bn gp) {u i w t : Nat} (hi : i < N) : okT T N an u i w t ↔ okT T G bn u (gp i) w t := by
  constructor
  · intro h g hg ha
    obtain ⟨j, hj, rfl⟩ := hb.2 g hg
    exact (can_bi hb hj).mp (h j hj ((al_bi hb hi hj).mpr ha))
  · intro h j hj ha
    exact (can_bi hb hj).mpr (h (gp j) (hb.1 j hj).1 ((al_bi hb hi hj).mp ha))
theorem ft_bi {T N G : Nat} {an bn : Nat → Nat → Int64} {gp : Nat → Nat} (hb : bsD T N G an bn gp) {u i : Nat} {r : Option Nat} (hi : i < N) : ftQ T N an u i r ↔ ftQ T G bn u (gp i) r := by
  unfold ftQ
  constructor
  · rintro (⟨a1, a2⟩ | ⟨v, t, a1, a2, a3, a4, a5, a6⟩)
    · exact Or.inl ⟨(can_bi hb hi).mp a1, a2⟩
    · exact Or.inr ⟨v, t, (ld_bi hb hi).mp a1, a2, a3, (ok_bi hb hi).mp a4, fun s hs hu hk => a5 s hs hu ((ok_bi hb hi).mpr hk), a6⟩
  · rintro (⟨a1, a2⟩ | ⟨v, t, a1, a2, a3, a4, a5, a6⟩)
    · exact Or.inl ⟨(can_bi hb hi).mpr a1, a2⟩
    · exact Or.inr ⟨v, t, (ld_bi hb hi).mpr a1, a2, a3, (ok_bi hb hi).mpr a4, fun s hs hu hk => a5 s hs hu ((ok_bi hb hi).mp hk), a6⟩
/-- the first of a cell -/
def fcB (T : Nat) (an : Nat → Nat → Int64) (u i j : Nat) : Bool := (fsS (fun t => u.testBit t && !decide (an t i = an t j)) T).isNone
theorem fcB_iff {T : Nat} {an : Nat → Nat → Int64} {u i j : Nat} : fcB T an u i j = true ↔ alD T an u i j := by
  unfold fcB
  rw [no_iff]
  constructor
  · intro h t ht hu
    have := h t ht
    rw [hu, Bool.true_and, Bool.not_eq_false', decide_eq_true_eq] at this
    exact this
  · intro h t ht
    cases hu : u.testBit t with
    | false => rfl
    | true => rw [h t ht hu]; simp
def ldr (T : Nat) (an : Nat → Nat → Int64) (u i : Nat) : Nat := (fsS (fun j => fcB T an u j i) (i + 1)).getD i
theorem ldr_p (T : Nat) (an : Nat → Nat → Int64) (u i : Nat) : ldr T an u i ≤ i ∧ alD T an u (ldr T an u i) i ∧ ∀ j, j < ldr T an u i → ¬ alD T an u j i := by
  unfold ldr
  cases hf : fsS (fun j => fcB T an u j i) (i + 1) with
  | none =>
    have := fsS_none.mp hf i (by omega)
    rw [fcB_iff.mpr alD.rf] at this; cases this
  | some s =>
    obtain ⟨h1, h2, h3⟩ := fsS_some.mp hf
    refine ⟨by show s ≤ i; omega, fcB_iff.mp h2, fun j hj ha => ?_⟩
    have := h3 j hj
    rw [fcB_iff.mpr ha] at this; cases this
theorem ldr_e {T : Nat} {an : Nat → Nat → Int64} {u i j : Nat} (h1 : alD T an u j i) (h2 : ∀ k, k < j → ¬ alD T an u k i) : ldr T an u i = j := by
  obtain ⟨p1, p2, p3⟩ := ldr_p T an u i
  rcases Nat.lt_trichotomy (ldr T an u i) j with c | c | c
  · exact absurd p2 (h2 _ c)
  · exact c
  · exact absurd h1 (p3 j c)
theorem ldr_al {T : Nat} {an : Nat → Nat → Int64} {u i j : Nat} : ldr T an u i = ldr T an u j ↔ alD T an u i j := by
  obtain ⟨p1, p2, p3⟩ := ldr_p T an u i
  obtain ⟨q1, q2, q3⟩ := ldr_p T an u j
  constructor
  · intro h; rw [h] at p2; exact p2.sy.tr q2
  · intro h
    exact ldr_e (q2.tr h.sy) (fun k hk ha => q3 k hk (ha.tr h))
theorem ldr_s {T : Nat} {an : Nat → Nat → Int64} {u i : Nat} : ldr T an u (ldr T an u i) = ldr T an u i := ldr_al.mpr (ldr_p T an u i).2.1
theorem n_or {a b : Nat} (ha : a < 4294967296) (hb : b < 4294967296) : nI a ||| nI b = nI (a ||| b) := by
  apply bi_ext
  intro j _
  rw [bi_or, bi_n ha, bi_n hb, bi_n (show a ||| b < 2 ^ 32 from Nat.or_lt_two_pow ha hb), Nat.testBit_or]
theorem bit_or {u t T : Nat} (hT : T ≤ 8) (hu : u < 2 ^ T) (ht : t < T) : nI u ||| oshl (nI 1) (nI t) = nI (u ||| 2 ^ t) ∧ u ||| 2 ^ t < 2 ^ T := by
  have h1 : (2 : Nat) ^ T ≤ 2 ^ 8 := Nat.pow_le_pow_right (by omega) hT
  have h2 : (2 : Nat) ^ t < 2 ^ T := Nat.pow_lt_pow_right (by omega) ht
  rw [shl_m (by omega), n_or (by omega) (by omega)]
  exact ⟨rfl, Nat.or_lt_two_pow hu h2⟩

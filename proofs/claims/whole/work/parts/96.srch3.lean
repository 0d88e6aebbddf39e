/-! LAYER 2: searching calls: shows, bars, fits -/
theorem lb_e {α β : Type} (x : α) (F : α → β) : lb x F = F x := rfl
theorem cp0 {α : Type} {f : Option Int32} {G : Option α} {H : Int32 → Option α} (e : f = some (nI 0)) : (cp f fun r => if r = 0 then G else H r) = G := by
  subst e
  show (if nI 0 = (0 : Int32) then G else H (nI 0)) = G
  exact if_pos rfl
theorem cp1 {α : Type} {f : Option Int32} {G : Option α} {H : Int32 → Option α} (e : f = some (nI 1)) : (cp f fun r => if r = 0 then G else H r) = H (nI 1) := by
  subst e
  show (if nI 1 = (0 : Int32) then G else H (nI 1)) = H (nI 1)
  exact if_neg (by decide)
theorem dI_e (n : Nat) : nI n - 1 = dI n := by
  rw [lit32]; rfl
def fsI : Option Nat → Int32
  | none => -nI 2
  | some s => nI s
def fsS (p : Nat → Bool) (i : Nat) : Option Nat := (List.range i).find? p
theorem fsS_s (p : Nat → Bool) (i : Nat) : fsS p (i + 1) = match fsS p i with | some s => some s | none => if p i then some i else none := by
  unfold fsS
  rw [List.range_succ, List.find?_append]
  cases (List.range i).find? p with
  | some s => rfl
  | none =>
    simp only [Option.none_or]
    cases h : p i <;> simp [h]
theorem fsS_some {p : Nat → Bool} {i s : Nat} : fsS p i = some s ↔ s < i ∧ p s = true ∧ ∀ j, j < s → p j = false := by
  induction i generalizing s with
  | zero => simp [fsS]
  | succ i ih =>
    rw [fsS_s]
    cases hf : fsS p i with
    | some t =>
      simp only [Option.some.injEq]
      obtain ⟨a1, a2, a3⟩ := ih.mp hf
      constructor
      · intro h; subst h; exact ⟨by omega, a2, a3⟩
      · rintro ⟨b1', b2, b3⟩
        rcases Nat.lt_trichotomy t s with c | c | c
        · rw [b3 t c] at a2; cases a2
        · exact c
        · rw [a3 s c] at b2; cases b2
    | none =>
      have hn : ∀ j, j < i → p j = false := fun j hj => by
        cases hp : p j with
        | false => rfl
        | true =>
          exfalso
          have := List.find?_eq_none.mp hf j (List.mem_range.mpr hj)
          exact this hp
      simp only
      cases hp : p i with
      | false =>
        simp only [Bool.false_eq_true, if_false]
        constructor
        · intro h; cases h
        · rintro ⟨b1', b2, _⟩
          by_cases c : s = i
          · subst c; rw [hp] at b2; cases b2
          · rw [hn s (by omega)] at b2; cases b2
      | true =>
        simp only [if_true, Option.some.injEq]
        constructor
        · intro h; subst h; exact ⟨by omega, hp, hn⟩
        · rintro ⟨b1', b2, b3⟩
          by_cases c : s = i
          · exact c.symm
          · rw [hn s (by omega)] at b2; cases b2
theorem fsS_none {p : Nat → Bool} {i : Nat} : fsS p i = none ↔ ∀ j, j < i → p j = false := by
  unfold fsS
  rw [List.find?_eq_none]
  constructor
  · intro h j hj
    have := h j (List.mem_range.mpr hj)
    simpa using this
  · intro h j hj
    rw [h j (List.mem_range.mp hj)]; simp
theorem fs_pc {p : Nat → Bool} {i : Nat} : fsS p i = none ↔ pcP i p = 0 := by
  rw [fsS_none]
  exact ⟨pcP_0, pcP_z⟩

theorem X11_shows_L {B : Bd} {x : Int64} {I3 : HI} {J4 : HJ} (hT : tabOk B I3 J4) (p : Nat → Bool) (hpd : p = fun s => decide (gS B 0 s = x)) (kx : Int32 → Int32 → Option (Int32 × HI × HJ)) (Q : Int32 × HI × HJ → Prop) (hx : Ok (kx (fsI (fsS p (3 ^ bW B))) (nI (pcP (3 ^ bW B) p))) Q) : ∀ K k, k ≤ 3 ^ bW B → 3 ^ bW B - k < K → Ok (F_X11_shows_L32 x I3 J4 kx K (fsI (fsS p k)) (nI (pcP k p)) (nI k)) Q := by
  have hp := p3_le hT.1
  refine up ?_ ?_
  · intro K
    rw [F_X11_shows_L32, if_pos (by rw [hT.2.1, n_le] <;> omega)]
    exact hx
  · intro K k hk ih
    have hle := pcP_le k p
    rw [F_X11_shows_L32, if_neg (by rw [hT.2.1, n_le] <;> omega)]
    rw [pcP_s, fsS_s] at ih
    simp (disch := omega) only [lb, lit32, n_bx, n_cl, (hT.2.2.1 k hk).1, cm0, n_eq, nI_1, nI_add]
    by_cases c : gS B 0 k = x
    · have hpk : p k = true := by rw [hpd]; simp [c]
      rw [hpk] at ih
      refine Ok.t c ?_
      by_cases d : pcP k p = 0
      · rw [fs_pc.mpr d] at ih
        exact Ok.t d ih
      · cases hf : fsS p k with
        | none => exact absurd (fs_pc.mp hf) d
        | some s =>
          rw [hf] at ih
          exact Ok.f d ih
    · have hpk : p k = false := by rw [hpd]; simp [c]
      rw [hpk] at ih
      refine Ok.f c ?_
      cases hf : fsS p k with
      | none => rw [hf] at ih; exact ih
      | some s => rw [hf] at ih; exact ih
theorem X12_shows_L {B : Bd} (hW : bW B ≤ 7) {x : Int64} {I3 : HI} {J4 : HJ} (hfa : faQ B I3 J4) (p : Nat → Bool) (hpd : p = fun s => decide (gS B 0 s = x)) (kx : Int32 → Int32 → Option (Int32 × HI × HJ)) (Q : Int32 × HI × HJ → Prop) (hx : Ok (kx (fsI (fsS p (3 ^ bW B))) (nI (pcP (3 ^ bW B) p))) Q) : ∀ k K, k < K → k ≤ 3 ^ bW B → ∀ o m, (∀ s, o = some s → s < 3 ^ bW B ∧ p s = true ∧ ∀ j, k ≤ j → j < s → p j = false) → (o = none → ∀ j, k ≤ j → j < 3 ^ bW B → p j = false) → m + pcP k p = pcP (3 ^ bW B) p → Ok (F_X12_shows_L43 x I3 J4 kx K (fsI o) (nI m) (dI k)) Q := by
  have hp := p3_le hW
  intro k
  induction k with
  | zero =>
    intro K hK _ o m h1 h2 h3
    cases K with
    | zero => omega
    | succ K =>
      rw [F_X12_shows_L43, if_pos dI_0]
      have hm : m = pcP (3 ^ bW B) p := by simpa [pcP] using h3
      subst hm
      cases o with
      | none =>
        have hf : fsS p (3 ^ bW B) = none := fsS_none.mpr (fun j hj => h2 rfl j (Nat.zero_le _) hj)
        rw [hf] at hx
        exact hx
      | some s =>
        obtain ⟨g1, g2, g3⟩ := h1 s rfl
        have hf : fsS p (3 ^ bW B) = some s := fsS_some.mpr ⟨g1, g2, fun j hj => g3 j (Nat.zero_le _) hj⟩
        rw [hf] at hx
        exact hx
  | succ k ih =>
    intro K hK hk o m h1 h2 h3
    cases K with
    | zero => omega
    | succ K =>
      rw [F_X12_shows_L43, dI_s, if_neg (n_nn (by omega))]
      rw [pcP_s] at h3
      simp (disch := omega) only [lb, lit32, n_bx, n_cl, (hfa k (by omega)).1, cm0, nI_1, nI_add, dI_m]
      by_cases c : gS B 0 k = x
      · have hpk : p k = true := by rw [hpd]; simp [c]
        rw [hpk] at h3
        refine Ok.t c ?_
        refine ih K (by omega) (by omega) (some k) (m + 1) (fun s hs => ?_) (fun h => by cases h) (by simp at h3; omega)
        cases hs
        exact ⟨by omega, hpk, fun j h4 h5 => by omega⟩
      · have hpk : p k = false := by rw [hpd]; simp [c]
        rw [hpk] at h3
        refine Ok.f c ?_
        refine ih K (by omega) (by omega) o m (fun s hs => ?_) (fun ho j h4 h5 => ?_) (by simpa using h3)
        · obtain ⟨g1, g2, g3⟩ := h1 s hs
          refine ⟨g1, g2, fun j h4 h5 => ?_⟩
          by_cases cj : j = k
          · rw [cj]; exact hpk
          · exact g3 j (by omega) h5
        · by_cases cj : j = k
          · rw [cj]; exact hpk
          · exact h2 ho j (by omega) h5

theorem OP15 (n : Nat) (b : Bool) (I : HI) (J : HJ) (a1 a2 a3 a4 : Int32) (h : Iv (n + 1) b I J) : Op15 (Iv n) b I J a1 a2 a3 a4 := by
  obtain ⟨B, nb, h⟩ := h
  have hB := h.1
  have h60 := hB.2.2.1
  have hX := h.2.1
  have hM0 := h.2.2.1
  have hTF := h.2.2.2.2.2.2.2.2.2
  have hN := h.2.2.2.2.1
  unfold Op15
  generalize lgA a1 a2 = x
  rcases X0_hasLamps (J := J) (x := x) h60 hX.2.1 with ⟨ok, e⟩ | ⟨nk, e⟩
  · skip
    by_cases hW : bW B ≤ 7
    · have hp := p3_le hW
      obtain ⟨p, hpd⟩ : ∃ p : Nat → Bool, p = fun s => decide (gS B 0 s = x) := ⟨_, rfl⟩
      refine srch h (fr_X11_shows x I J) (fun I1 J1 => fr_X12_shows x I1 J1) (by decide) (fsI (fsS p (3 ^ bW B))) ((fsS p (3 ^ bW B)).map (fun s => [Int32.toInt64 (wr (bW B) 1 s), Int32.toInt64 (wr (bW B) 2 s), Int32.toInt64 (nI (pcP (3 ^ bW B) p))])) ?_ ?_
      · unfold F_X11_shows
        refine Ok.cpe e (Ok.f (by decide) (openX hB hW hX hTF.1 hTF.2.1 (fun I3 J4 hX3 hR s1 s2 => ?_)))
        refine X11_shows_L hR.1 p hpd _ _ ?_ bgf 0 (Nat.zero_le _) (by unfold bgf; omega)
        have hle := pcP_le (3 ^ bW B) p
        cases hf : fsS p (3 ^ bW B) with
        | none =>
          have hz := fs_pc.mp hf
          rw [hz]
          exact Ok.t (by decide) (Ok.mk ⟨rfl, hR.tab, hR.2.2, toX_o s1 s2 (by decide) (by decide)⟩)
        | some s =>
          obtain ⟨hs, _⟩ := fsS_some.mp hf
          have hz : pcP (3 ^ bW B) p ≠ 0 := fun h0 => by rw [fs_pc.mpr h0] at hf; cases hf
          refine Ok.f (n_z (by omega) (by omega)) ?_
          rw [show fsI (some s) = nI s from rfl]
          refine clr1 (fun I5 c1 c2 => Ok.bxe (by omega) (by omega) ?_)
          have w5 : I5 x_table_high s = wr (bW B) 1 s := by rw [c2 _ _ rfl]; exact (hR.1.2.2.2 s hs).1
          rw [n_cl (by omega), w5]
          refine add1 c1 (by simp) (fun I6 J6 d1 d2 d3 => Ok.bxe (by omega) (by omega) ?_)
          have w6 : I6 x_table_low s = wr (bW B) 2 s := by rw [d2 _ _ rfl, c2 _ _ rfl]; exact (hR.1.2.2.2 s hs).2
          rw [w6]
          refine add1 d1 (by simp) (fun I7 J7 e1 e2 e3 => add1 e1 (by simp) (fun I8 J8 f1 f2 f3 => Ok.mk ⟨rfl, ?_, ?_, f1⟩))
          · exact ((((hR.k1 c2 Sm.rf).k1 d2 d3).k1 e2 e3).k1 f2 f3).tab
          · exact ((((hR.k1 c2 Sm.rf).k1 d2 d3).k1 e2 e3).k1 f2 f3).2.2
      · intro I1 J1 hM hMo u1 u2
        have sT := th_s I1 0
        have hM2 : MB B (ui I1 m_self f_Model_thrown 0) := hM.keep (Ag.of sT (by decide))
        unfold F_X12_shows
        refine Ok.lbv (Ok.cpe ((X12_areLamps h60 hM2.2.1).1 ok) (Ok.f (by decide) (Ok.cpe ((X12_can hB _ _ hM2).1 hW) (Ok.f (by decide) (allM hB hW hM2 (hMo.keep (Ag.of sT (by decide))) (fun I3 J4 hM3 hMo3 hfa hst t1 t2 => ?_))))))
        have hle0 := pcP_le (3 ^ bW B) p
        refine Ok.cpe hst (Ok.lbv ?_)
        rw [dI_e]
        refine X12_shows_L hW hfa p hpd _ _ ?_ (3 ^ bW B) bgf (by unfold bgf; omega) (Nat.le_refl _) none 0 (fun s h => by cases h) (fun _ j h4 h5 => by omega) (by omega)
        cases hf : fsS p (3 ^ bW B) with
        | none => exact Ok.f (by decide) (Ok.mk ⟨rfl, hMo3, toM_2 sT t1 t2 (by decide) (by decide) (by decide)⟩)
        | some s =>
          obtain ⟨hs, _⟩ := fsS_some.mp hf
          refine Ok.t (nI_pos' (by omega)) (clrM (J := J4) (fun I5 c1 c2 => ?_))
          have hM5 : MB B I5 := hM3.keep (Ag.of c2 (by decide))
          refine Ok.cpe (X12_high hB hM5 s (by omega)).1 (tel1 c1 (by simp) (fun I6 J6 d1 d2 d3 => ?_))
          have hM6 : MB B I6 := hM5.keep (Ag.of d2 (by decide))
          refine Ok.cpe (X12_high hB hM6 s (by omega)).2 (tel1 d1 (by simp) (fun I7 J7 e1 e2 e3 => tel1 e1 (by simp) (fun I8 J8 f1 f2 f3 => Ok.mk ⟨rfl, ?_, f1⟩)))
          exact (((hMo3.k1 c2).k1 d2).k1 e2).k1 f2
    · refine srch h (fr_X11_shows x I J) (fun I1 J1 => fr_X12_shows x I1 J1) (by decide) (-3) none ?_ ?_
      · unfold F_X11_shows
        exact Ok.cpe e (Ok.f (by decide) (noX hB hW hX (Ok.mk ⟨rfl, hTF.1, hTF.2.1, rfl, rfl⟩)))
      · intro I1 J1 hM hMo u1 u2
        have sT := th_s I1 0
        have hM2 : MB B (ui I1 m_self f_Model_thrown 0) := hM.keep (Ag.of sT (by decide))
        unfold F_X12_shows
        exact Ok.lbv (Ok.cpe ((X12_areLamps h60 hM2.2.1).1 ok) (Ok.f (by decide) (Ok.cpe ((X12_can hB _ _ hM2).2 hW) (Ok.t (by decide) (Ok.mk ⟨rfl, hMo.keep (Ag.of sT (by decide)), toM_o sT (Sm.rf (w := [])) (by decide) (by decide)⟩)))))
  · refine ⟨-1, I, J, ui I m_self f_Model_thrown 0, J, ?_, ?_, IV_th h (th_s I 0) Sm.rf⟩
    · unfold F_X11_shows
      exact cp0 (e)
    · unfold F_X12_shows
      exact (lb_e _ _).trans (cp0 ((X12_areLamps (J := J) h60 (by rw [ui_j (by decide)]; exact hM0.2.1)).2 nk))

/-! LAYER 2: searching calls: bars, fits -/
theorem Ok.jq {γ β : Type} {x : γ → Option β} {F : (γ → Option β) → Option β} {Q : β → Prop} (R : γ → Prop) (hx : ∀ y, R y → Ok (x y) Q) (h : ∀ j, (∀ y, R y → Ok (j y) Q) → Ok (F j) Q) : Ok (lb x F) Q := h x hx
def baC (B : Bd) (x : Int64) (s : Nat) : Bool := decide (x &&& (gS B 0 s ^^^ (-lN 1)) = lN 0)
def baO (B : Bd) (x : Int64) (s : Nat) : Nat := pc (gS B 0 s &&& (x ^^^ (-lN 1)))
def ba1 (B : Bd) (x : Int64) (m : Option (Nat × Nat)) (s : Nat) : Option (Nat × Nat) := if baC B x s then (match m with | none => some (s, baO B x s) | some (a, l) => if baO B x s < l then some (s, baO B x s) else some (a, l)) else m
def baS (B : Bd) (x : Int64) (i : Nat) : Option (Nat × Nat) := (List.range i).foldl (ba1 B x) none
theorem baS_s (B : Bd) (x : Int64) (i : Nat) : baS B x (i + 1) = ba1 B x (baS B x i) i := by
  unfold baS; rw [List.range_succ, List.foldl_append]; rfl
theorem baS_le {B : Bd} {x : Int64} {i a l : Nat} (h : baS B x i = some (a, l)) : a < i ∧ l ≤ 64 ∧ l = baO B x a := by
  induction i generalizing a l with
  | zero => cases h
  | succ i ih =>
    rw [baS_s] at h
    have hO : baO B x i ≤ 64 := pc_le _
    unfold ba1 at h
    cases hc : baC B x i with
    | false => rw [hc] at h; have := ih (by simpa using h); exact ⟨by omega, this.2⟩
    | true =>
      rw [hc] at h
      simp only [if_true] at h
      cases hm : baS B x i with
      | none => rw [hm] at h; simp only [Option.some.injEq, Prod.mk.injEq] at h; rw [← h.1, ← h.2]; exact ⟨by omega, hO, rfl⟩
      | some al =>
        obtain ⟨a', l'⟩ := al
        have := ih hm
        rw [hm] at h
        simp only at h
        split at h
        · simp only [Option.some.injEq, Prod.mk.injEq] at h; rw [← h.1, ← h.2]; exact ⟨by omega, hO, rfl⟩
        · simp only [Option.some.injEq, Prod.mk.injEq] at h; rw [← h.1, ← h.2]; exact ⟨by omega, this.2⟩
theorem ba_iff (g x : Int64) : (g &&& x = x) ↔ (x &&& (g ^^^ (-lN 1)) = lN 0) := by
  constructor
  · intro h
    apply bt_ext
    intro k hk
    have := congrArg (fun y => bt y k) h
    simp only [bt_and] at this
    rw [bt_and, bt_nt hk, bt_z]
    revert this
    cases bt g k <;> cases bt x k <;> decide
  · intro h
    apply bt_ext
    intro k hk
    have := congrArg (fun y => bt y k) h
    simp only [bt_and, bt_nt hk, bt_z] at this
    rw [bt_and]
    revert this
    cases bt g k <;> cases bt x k <;> decide
def baI : Option (Nat × Nat) → Int32 × Int32
  | none => (-nI 2, -nI 1)
  | some (a, l) => (nI l, nI a)
def baJ : Option (Nat × Nat) → Int32 × Int32
  | none => (-nI 1, nI 0)
  | some (a, l) => (nI a, nI l)
theorem X11_bars_L {B : Bd} {x : Int64} {I3 : HI} {J4 : HJ} (hT : tabOk B I3 J4) (kx : Int32 → Int32 → Option (Int32 × HI × HJ)) (Q : Int32 × HI × HJ → Prop) (hx : Ok (kx (baI (baS B x (3 ^ bW B))).1 (baI (baS B x (3 ^ bW B))).2) Q) : ∀ K k, k ≤ 3 ^ bW B → 3 ^ bW B - k < K → Ok (F_X11_bars_L32 x I3 J4 kx K (baI (baS B x k)).1 (baI (baS B x k)).2 (nI k)) Q := by
  have hp := p3_le hT.1
  refine up ?_ ?_
  · intro K
    rw [F_X11_bars_L32, if_pos (by rw [hT.2.1, n_le] <;> omega)]
    exact hx
  · intro K k hk ih
    have hO : baO B x k ≤ 64 := pc_le _
    rw [F_X11_bars_L32, if_neg (by rw [hT.2.1, n_le] <;> omega)]
    rw [baS_s] at ih
    simp (disch := omega) only [lb, lit32, litL, n_bx, n_cl, (hT.2.2.1 k hk).1, cm0, bcN, cp, Option.bind_some, nI_1, nI_add]
    change Ok (if x &&& (gS B 0 k ^^^ (-lN 1)) = lN 0 then (if (baI (baS B x k)).2 = -nI 1 then F_X11_bars_L32 x I3 J4 kx K (nI (baO B x k)) (nI k) (nI (k + 1)) else if (baI (baS B x k)).1 ≤ nI (baO B x k) then F_X11_bars_L32 x I3 J4 kx K (baI (baS B x k)).1 (baI (baS B x k)).2 (nI (k + 1)) else F_X11_bars_L32 x I3 J4 kx K (nI (baO B x k)) (nI k) (nI (k + 1))) else F_X11_bars_L32 x I3 J4 kx K (baI (baS B x k)).1 (baI (baS B x k)).2 (nI (k + 1))) Q
    unfold ba1 baC at ih
    by_cases c : x &&& (gS B 0 k ^^^ (-lN 1)) = lN 0
    · rw [if_pos c]
      rw [decide_eq_true c, if_pos rfl] at ih
      cases hm : baS B x k with
      | none => rw [hm] at ih; exact Ok.t rfl ih
      | some al =>
        obtain ⟨a, l⟩ := al
        obtain ⟨b1', b2, _⟩ := baS_le hm
        rw [hm] at ih
        simp only [baI] at ih ⊢
        refine Ok.f (by rw [n_ne1 (by omega)]; simp) ?_
        by_cases d : baO B x k < l
        · rw [if_pos d] at ih
          exact Ok.f (by rw [n_le (by omega) (by omega)]; omega) ih
        · rw [if_neg d] at ih
          exact Ok.t (by rw [n_le (by omega) (by omega)]; omega) ih
    · rw [if_neg c]
      rw [decide_eq_false c, if_neg (by simp)] at ih
      exact ih
theorem X12_bars_L {B : Bd} (hW : bW B ≤ 7) {x : Int64} {I3 : HI} {J4 : HJ} (hfa : faQ B I3 J4) (hst : F_X12_settings I3 J4 = some (nI (3 ^ bW B))) (kx : Int32 → Int32 → Option (Int32 × HI × HJ)) (Q : Int32 × HI × HJ → Prop) (hx : Ok (kx (baJ (baS B x (3 ^ bW B))).1 (baJ (baS B x (3 ^ bW B))).2) Q) : ∀ K k, k ≤ 3 ^ bW B → 3 ^ bW B - k < K → Ok (F_X12_bars_L37 x I3 J4 kx K (baJ (baS B x k)).1 (baJ (baS B x k)).2 (nI k)) Q := by
  have hp := p3_le hW
  refine up ?_ ?_
  · intro K
    rw [F_X12_bars_L37, hst]
    refine Ok.cpe rfl (Ok.t (by rw [n_le] <;> omega) hx)
  · intro K k hk ih
    have hO : baO B x k ≤ 64 := pc_le _
    rw [F_X12_bars_L37, hst]
    refine Ok.cpe rfl (Ok.f (by rw [n_le] <;> omega) ?_)
    rw [baS_s] at ih
    simp (disch := omega) only [lb, lit32, litL, n_bx, n_cl, (hfa k hk).1, cm0, bcN, cp, Option.bind_some, nI_1, nI_add, ba_iff]
    change Ok (if x &&& (gS B 0 k ^^^ (-lN 1)) = lN 0 then (if (baJ (baS B x k)).1 = -nI 1 then F_X12_bars_L37 x I3 J4 kx K (nI k) (nI (baO B x k)) (nI (k + 1)) else if nI (baO B x k) < (baJ (baS B x k)).2 then F_X12_bars_L37 x I3 J4 kx K (nI k) (nI (baO B x k)) (nI (k + 1)) else F_X12_bars_L37 x I3 J4 kx K (baJ (baS B x k)).1 (baJ (baS B x k)).2 (nI (k + 1))) else F_X12_bars_L37 x I3 J4 kx K (baJ (baS B x k)).1 (baJ (baS B x k)).2 (nI (k + 1))) Q
    unfold ba1 baC at ih
    by_cases c : x &&& (gS B 0 k ^^^ (-lN 1)) = lN 0
    · rw [if_pos c]
      rw [decide_eq_true c, if_pos rfl] at ih
      cases hm : baS B x k with
      | none => rw [hm] at ih; exact Ok.t rfl ih
      | some al =>
        obtain ⟨a, l⟩ := al
        obtain ⟨b1', b2, _⟩ := baS_le hm
        rw [hm] at ih
        simp only [baJ] at ih ⊢
        refine Ok.f (by rw [n_ne1 (by omega)]; simp) ?_
        by_cases d : baO B x k < l
        · rw [if_pos d] at ih
          exact Ok.t (by rw [n_lt (by omega) (by omega)]; omega) ih
        · rw [if_neg d] at ih
          exact Ok.f (by rw [n_lt (by omega) (by omega)]; omega) ih
    · rw [if_neg c]
      rw [decide_eq_false c, if_neg (by simp)] at ih
      exact ih
def ntS (x : Int64) : Int32 := (F_J13_numberOfTrailingZeros_95d88 x).getD 0
theorem ntS_e {x : Int64} (h : x ≠ lN 0) : F_J13_numberOfTrailingZeros_95d88 x = some (ntS x) := by
  obtain ⟨k, _, e, _⟩ := ntN h
  unfold ntS; rw [e]; rfl
def baR (B : Bd) (x : Int64) (al : Nat × Nat) : List Int64 := [Int32.toInt64 (nI al.1), if al.2 = 0 then -1 else Int32.toInt64 (ntS (gS B 0 al.1 &&& (x ^^^ (-lN 1))))]

theorem OP16 (n : Nat) (b : Bool) (I : HI) (J : HJ) (a1 a2 a3 a4 : Int32) (h : Iv (n + 1) b I J) : Op16 (Iv n) b I J a1 a2 a3 a4 := by
  obtain ⟨B, nb, h⟩ := h
  have hB := h.1
  have h60 := hB.2.2.1
  have hX := h.2.1
  have hM0 := h.2.2.1
  have hTF := h.2.2.2.2.2.2.2.2.2
  have hN := h.2.2.2.2.1
  unfold Op16
  generalize lgA a1 a2 = x
  rcases X0_hasLamps (J := J) (x := x) h60 hX.2.1 with ⟨ok, e⟩ | ⟨nk, e⟩
  · skip
    by_cases hW : bW B ≤ 7
    · have hp := p3_le hW
      skip
      refine srch h (fr_X11_bars x I J) (fun I1 J1 => fr_X12_bars x I1 J1) (by decide) ((baI (baS B x (3 ^ bW B))).1) ((baS B x (3 ^ bW B)).map (baR B x)) ?_ ?_
      · unfold F_X11_bars
        refine Ok.cpe e (Ok.f (by decide) (openX hB hW hX hTF.1 hTF.2.1 (fun I3 J4 hX3 hR s1 s2 => ?_)))
        refine X11_bars_L hR.1 _ _ ?_ bgf 0 (Nat.zero_le _) (by unfold bgf; omega)
        cases hf : baS B x (3 ^ bW B) with
        | none => exact Ok.t rfl (Ok.mk ⟨rfl, hR.tab, hR.2.2, toX_o s1 s2 (by decide) (by decide)⟩)
        | some al =>
          obtain ⟨a, l⟩ := al
          obtain ⟨b1', b2, b3⟩ := baS_le hf
          refine Ok.f (show ¬ nI a = (-1 : Int32) from fun hh => (n_ne1 (by omega)).mp hh) ?_
          refine clr1 (fun I5 c1 c2 => add1 c1 (by simp) (fun I6 J6 d1 d2 d3 => ?_))
          have hR6 := (hR.k1 c2 Sm.rf).k1 d2 d3
          refine Ok.jq (fun y => y = (if l = 0 then -1 else Int32.toInt64 (ntS (gS B 0 a &&& (x ^^^ (-lN 1)))))) (fun y hy => ?_) (fun j hj => ?_)
          · refine add1 d1 (by simp) (fun I7 J7 e1 e2 e3 => Ok.mk ⟨rfl, (hR6.k1 e2 e3).tab, (hR6.k1 e2 e3).2.2, ?_⟩)
            rw [hy] at e1; exact e1
          · by_cases c : l = 0
            · exact Ok.t (show nI l = (0 : Int32) by rw [c]; rfl) (hj _ (by rw [if_pos c]))
            · refine Ok.f (show ¬ nI l = (0 : Int32) from fun hh => by
                have hh' : nI l = nI 0 := hh
                rw [n_eq (by omega) (by omega)] at hh'; exact c hh') (Ok.bxe (by omega) (by omega) ?_)
              have eg : J6 x_table_glow (nI a).toNatClampNeg = gS B 0 a := by rw [n_cl (by omega)]; exact (hR6.1.2.2.1 a b1').1
              have hne : gS B 0 a &&& (x ^^^ (-lN 1)) ≠ lN 0 := fun h0 => c (by rw [b3]; exact pc_0.mpr h0)
              refine Ok.cpe (by show F_J13_numberOfTrailingZeros_95d88 (J6 x_table_glow (nI a).toNatClampNeg &&& (x ^^^ (-lN 1))) = _; rw [eg]; exact ntS_e hne) (hj _ (by rw [if_neg c]))
      · intro I1 J1 hM hMo u1 u2
        have sT := th_s I1 0
        have hM2 : MB B (ui I1 m_self f_Model_thrown 0) := hM.keep (Ag.of sT (by decide))
        unfold F_X12_bars
        refine Ok.lbv (Ok.cpe ((X12_areLamps h60 hM2.2.1).1 ok) (Ok.f (by decide) (Ok.cpe ((X12_can hB _ _ hM2).1 hW) (Ok.f (by decide) (allM hB hW hM2 (hMo.keep (Ag.of sT (by decide))) (fun I3 J4 hM3 hMo3 hfa hst t1 t2 => ?_))))))
        refine X12_bars_L hW hfa hst _ _ ?_ bgf 0 (Nat.zero_le _) (by unfold bgf; omega)
        cases hf : baS B x (3 ^ bW B) with
        | none => exact Ok.t rfl (Ok.mk ⟨rfl, hMo3, toM_2 sT t1 t2 (by decide) (by decide) (by decide)⟩)
        | some al =>
          obtain ⟨a, l⟩ := al
          obtain ⟨b1', b2, b3⟩ := baS_le hf
          refine Ok.f (show ¬ nI a = (-1 : Int32) from fun hh => (n_ne1 (by omega)).mp hh) ?_
          refine clrM (J := J4) (fun I5 c1 c2 => tel1 c1 (by simp) (fun I6 J6 d1 d2 d3 => ?_))
          refine Ok.jq (fun y => y = (if l = 0 then -1 else Int32.toInt64 (ntS (gS B 0 a &&& (x ^^^ (-lN 1)))))) (fun y hy => ?_) (fun j hj => ?_)
          · refine tel1 d1 (by simp) (fun I7 J7 e1 e2 e3 => Ok.mk ⟨rfl, ((hMo3.k1 c2).k1 d2).k1 e2, ?_⟩)
            rw [hy] at e1; exact e1
          · by_cases c : l = 0
            · exact Ok.t (show nI l = (0 : Int32) by rw [c]; rfl) (hj _ (by rw [if_pos c]))
            · refine Ok.f (show ¬ nI l = (0 : Int32) from fun hh => by
                have hh' : nI l = nI 0 := hh
                rw [n_eq (by omega) (by omega)] at hh'; exact c hh') (Ok.bxe (by omega) (by omega) ?_)
              have eg : J6 m_glow (nI a).toNatClampNeg = gS B 0 a := by rw [n_cl (by omega), d3 _ _ rfl]; exact (hfa a b1').1
              have hne : gS B 0 a &&& (x ^^^ (-lN 1)) ≠ lN 0 := fun h0 => c (by rw [b3]; exact pc_0.mpr h0)
              refine Ok.cpe (by show F_J13_numberOfTrailingZeros_95d88 (J6 m_glow (nI a).toNatClampNeg &&& (x ^^^ (-lN 1))) = _; rw [eg]; exact ntS_e hne) (hj _ (by rw [if_neg c]))
    · refine srch h (fr_X11_bars x I J) (fun I1 J1 => fr_X12_bars x I1 J1) (by decide) (-3) none ?_ ?_
      · unfold F_X11_bars
        exact Ok.cpe e (Ok.f (by decide) (noX hB hW hX (Ok.mk ⟨rfl, hTF.1, hTF.2.1, rfl, rfl⟩)))
      · intro I1 J1 hM hMo u1 u2
        have sT := th_s I1 0
        have hM2 : MB B (ui I1 m_self f_Model_thrown 0) := hM.keep (Ag.of sT (by decide))
        unfold F_X12_bars
        exact Ok.lbv (Ok.cpe ((X12_areLamps h60 hM2.2.1).1 ok) (Ok.f (by decide) (Ok.cpe ((X12_can hB _ _ hM2).2 hW) (Ok.t (by decide) (Ok.mk ⟨rfl, hMo.keep (Ag.of sT (by decide)), toM_o sT (Sm.rf (w := [])) (by decide) (by decide)⟩)))))
  · refine ⟨-1, I, J, ui I m_self f_Model_thrown 0, J, ?_, ?_, IV_th h (th_s I 0) Sm.rf⟩
    · unfold F_X11_bars
      exact cp0 (e)
    · unfold F_X12_bars
      exact (lb_e _ _).trans (cp0 ((X12_areLamps (J := J) h60 (by rw [ui_j (by decide)]; exact hM0.2.1)).2 nk))

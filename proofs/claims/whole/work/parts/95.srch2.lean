/-! LAYER 2: searching calls: alone, most, shows, bars -/
theorem add1 {α : Type} {xs : List Int64} {v : Int64} {I : HI} {J : HJ} {G : HI → HJ → Option α} {Q : α → Prop} (h : tX xs I J) (hl : xs.length < 16) (k : ∀ I' J', tX (xs ++ [v]) I' J' → Sm [(x_told, some f_Told_size)] I I' → Sm [(x_told_numbers, none)] J J' → Ok (G I' J') Q) : Ok (cl (F_X10_add v I J) fun _ I' J' => G I' J') Q := by
  refine Ok.call ((tX_add h v hl).fo (fr_X10_add _ _ _)) (fun r I3 J3 _ hP => ?_)
  exact k I3 J3 hP.1 hP.2.1 hP.2.2
theorem clr1 {α : Type} {I : HI} {J : HJ} {G : HI → HJ → Option α} {Q : α → Prop} (k : ∀ I', tX [] I' J → Sm [(x_told, some f_Told_size)] I I' → Ok (G I' J) Q) : Ok (cl (F_X10_clear I J) fun _ I' J' => G I' J') Q := by
  obtain ⟨c1, c2⟩ := tX_0 I J
  exact Ok.cle c1 (k _ c2 (Sm.mi rfl Sm.rf))
theorem tel1 {α : Type} {xs : List Int64} {v : Int64} {I : HI} {J : HJ} {G : HI → HJ → Option α} {Q : α → Prop} (h : tM xs I J) (hl : xs.length < 210) (k : ∀ I' J', tM (xs ++ [v]) I' J' → Sm [(m_self, some f_Model_rowMany)] I I' → Sm [(m_row, none)] J J' → Ok (G I' J') Q) : Ok (cl (F_X12_tell v I J) fun _ I' J' => G I' J') Q := by
  refine Ok.call ((tM_add h v hl).fo (fr_X12_tell _ _ _)) (fun r I3 J3 _ hP => ?_)
  exact k I3 J3 hP.1 hP.2.1 hP.2.2
theorem clrM {α : Type} {I : HI} {J : HJ} {G : HI → Option α} {Q : α → Prop} (k : ∀ I', tM [] I' J → Sm [(m_self, some f_Model_rowMany)] I I' → Ok (G I') Q) : Ok (lb (ui I m_self f_Model_rowMany 0) G) Q := k _ ⟨by rw [ui_r]; rfl, fun k hk => by simp at hk⟩ (Sm.mi rfl Sm.rf)
theorem rfQ.k1 {B : Bd} {I I' : HI} {J J' : HJ} (h : rfQ B I J) (a : Sm [(x_told, some f_Told_size)] I I') (b : Sm [(x_told_numbers, none)] J J') : rfQ B I' J' := h.keep (Ag.of a (by decide)) (Ag.of b (by decide)) (Ag.of a (by decide)) (Ag.of b (by decide))
theorem CMod.k1 {I I' : HI} (h : CMod I) (a : Sm [(m_self, some f_Model_rowMany)] I I') : CMod I' := h.keep (Ag.of a (by decide))
theorem pc_low {x : Int64} : x &&& (x - lN 1) = lN 0 ↔ pc x ≤ 1 := by
  by_cases c : x = lN 0
  · subst c
    constructor
    · intro _; decide
    · intro _; decide
  · obtain ⟨k, k1, _, k3, k4⟩ := ntN c
    have e := bits_low k1 k3 k4
    rw [← bits_pc, e]
    constructor
    · intro h
      rw [h]
      have : bits (lN 0) = [] := List.filter_eq_nil_iff.mpr (fun a _ => by rw [bt_z]; simp)
      rw [this]; simp
    · intro h
      apply bits_nil
      rw [List.length_cons] at h
      exact List.length_eq_zero_iff.mp (by omega)
theorem pc_0 {x : Int64} : pc x = 0 ↔ x = lN 0 := by
  constructor
  · intro h
    rw [← bits_pc] at h
    exact bits_nil (List.length_eq_zero_iff.mp h)
  · intro h; rw [h]; decide
theorem or_zL (x : Int64) : x ||| lN 0 = x := by apply bt_ext; intro k _; rw [bt_or, bt_z, Bool.or_false]
theorem pc_le (x : Int64) : pc x ≤ 64 := pcP_le 64 _
def alS (B : Bd) (i : Nat) : Int64 := (List.range i).foldl (fun x s => if pc (gS B 0 s) = 1 then x ||| gS B 0 s else x) (lN 0)
theorem alS_s (B : Bd) (i : Nat) : alS B (i + 1) = if pc (gS B 0 i) = 1 then alS B i ||| gS B 0 i else alS B i := by
  unfold alS; rw [List.range_succ, List.foldl_append]; rfl

theorem OP20 (n : Nat) (b : Bool) (I : HI) (J : HJ) (a1 a2 a3 a4 : Int32) (h : Iv (n + 1) b I J) : Op20 (Iv n) b I J a1 a2 a3 a4 := by
  obtain ⟨B, nb, h⟩ := h
  have hB := h.1
  have h60 := hB.2.2.1
  have hX := h.2.1
  have hM0 := h.2.2.1
  have hTF := h.2.2.2.2.2.2.2.2.2
  have hN := h.2.2.2.2.1

  by_cases hW : bW B ≤ 7
  · have hp := p3_le hW
    skip
    refine srch h (fr_X11_alone I J) (fun I1 J1 => fr_X12_alone I1 J1) (by decide) (alS B (3 ^ bW B)) (none) ?_ ?_
    · unfold F_X11_alone
      refine openX hB hW hX hTF.1 hTF.2.1 (fun I3 J4 hX3 hR s1 s2 => ?_)
      have hl : ∀ K k, k ≤ 3 ^ bW B → 3 ^ bW B - k < K → F_X11_alone_L15 I3 J4 K (alS B k) (nI k) = some (alS B (3 ^ bW B), I3, J4) := by
        refine up ?_ ?_
        · intro K
          rw [F_X11_alone_L15, if_pos (by rw [hR.1.2.1, n_le] <;> omega)]
        · intro K k hk ih
          rw [F_X11_alone_L15, if_neg (by rw [hR.1.2.1, n_le] <;> omega)]
          rw [alS_s] at ih
          simp (disch := omega) only [lb, lit32, litL, cm0, n_bx, n_cl, (hR.1.2.2.1 k hk).1, nI_1, nI_add, pc_low]
          by_cases c : pc (gS B 0 k) = 1
          · rw [if_pos c] at ih
            rw [if_pos (by omega)]; exact ih
          · rw [if_neg c] at ih
            by_cases d : pc (gS B 0 k) ≤ 1
            · rw [if_pos d]
              have : gS B 0 k = lN 0 := pc_0.mp (by omega)
              rw [this, or_zL]; exact ih
            · rw [if_neg d]; exact ih
      exact ⟨_, hl bgf 0 (Nat.zero_le _) (by unfold bgf; omega), rfl, hR.tab, hR.2.2, toX_o s1 s2 (by decide) (by decide)⟩
    · intro I1 J1 hM hMo u1 u2
      have sT := th_s I1 0
      have hM2 : MB B (ui I1 m_self f_Model_thrown 0) := hM.keep (Ag.of sT (by decide))
      unfold F_X12_alone
      refine Ok.lbv (Ok.cpe ((X12_can hB _ _ hM2).1 hW) (Ok.f (by decide) (allM hB hW hM2 (hMo.keep (Ag.of sT (by decide))) (fun I3 J4 hM3 hMo3 hfa hst t1 t2 => ?_))))
      have hl : ∀ K k, k ≤ 3 ^ bW B → 3 ^ bW B - k < K → F_X12_alone_L24 I3 J4 K (alS B k) (nI k) = some (alS B (3 ^ bW B), I3, J4) := by
        refine up ?_ ?_
        · intro K
          rw [F_X12_alone_L24, hst]
          simp only [cp, Option.bind_some]
          rw [if_pos (by rw [n_le] <;> omega)]
        · intro K k hk ih
          have hpc := pc_le (gS B 0 k)
          rw [F_X12_alone_L24, hst]
          simp only [cp, Option.bind_some]
          rw [if_neg (by rw [n_le] <;> omega)]
          rw [alS_s] at ih
          simp (disch := omega) only [lb, lit32, litL, n_bx, n_cl, (hfa k hk).1, bcN, Option.bind_some, n_eq, nI_1, nI_add, or_zL]
          by_cases c : pc (gS B 0 k) = 1
          · rw [if_pos c] at ih ⊢; exact ih
          · rw [if_neg c] at ih ⊢; exact ih
      exact ⟨_, hl bgf 0 (Nat.zero_le _) (by unfold bgf; omega), rfl, hMo3, toM_2 sT t1 t2 (by decide) (by decide) (by decide)⟩
  · refine srch h (fr_X11_alone I J) (fun I1 J1 => fr_X12_alone I1 J1) (by decide) (-3) none ?_ ?_
    · unfold F_X11_alone
      exact noX hB hW hX (Ok.mk ⟨rfl, hTF.1, hTF.2.1, rfl, rfl⟩)
    · intro I1 J1 hM hMo u1 u2
      have sT := th_s I1 0
      have hM2 : MB B (ui I1 m_self f_Model_thrown 0) := hM.keep (Ag.of sT (by decide))
      unfold F_X12_alone
      exact Ok.lbv (Ok.cpe ((X12_can hB _ _ hM2).2 hW) (Ok.t (by decide) (Ok.mk ⟨rfl, hMo.keep (Ag.of sT (by decide)), toM_o sT (Sm.rf (w := [])) (by decide) (by decide)⟩)))

theorem wr_0 (W d : Nat) (hW : W ≤ 10) (hd : d ≠ 0) : wr W d 0 = nI 0 := by
  apply bi_ext
  intro k _
  rw [wr_b _ _ _ _ hW, bi_z]
  have : ¬ 0 % 3 = d := by omega
  simp [Nat.zero_div]; omega
theorem ptF_h0 {B : Bd} {f : Nat} {h l : Nat → Bool} (hh : ∀ w, h w = false) : ptF B f h l = [] := by
  cases hc : cfl (ftK (bW B) f) (ftA (bW B) f) (ftB (bW B) f) h l with
  | true => exact ptF_c hc
  | false =>
    rw [ptF_n hc]
    unfold paS
    rw [List.flatMap_eq_nil_iff]
    intro w _
    have : hiE (ftK (bW B) f) (ftA (bW B) f) (ftB (bW B) f) h w = false := by
      unfold hiE; repeat' split
      all_goals simp [hh]
    rw [this]; simp
theorem gS_0 {B : Bd} (hB : OkB B) (f : Nat) : gS B f 0 = lN 0 := by
  unfold gS gwF
  rw [wr_0 _ 1 hB.2.1 (by omega), ptF_h0 (fun w => bi_z w), gw_nil B hB]
theorem clS_0 {B : Bd} (hB : OkB B) : clS B 0 = true := by
  unfold clS
  rw [gS_0 hB]
  have : lN 0 &&& (asS B (bi (wr (bW B) 1 0)) (bi (wr (bW B) 2 0)) ^^^ (-lN 1)) = lN 0 := by
    apply bt_ext; intro k _; rw [bt_and, bt_z]; simp
  rw [this]; simp
def moS (B : Bd) (i : Nat) : Nat × Nat := (List.range i).foldl (fun m s => if clS B s && decide (m.1 < pc (gS B 0 s)) then (pc (gS B 0 s), s) else m) (0, 0)
theorem moS_s (B : Bd) (i : Nat) : moS B (i + 1) = if clS B i && decide ((moS B i).1 < pc (gS B 0 i)) then (pc (gS B 0 i), i) else moS B i := by
  unfold moS; rw [List.range_succ, List.foldl_append]; rfl
theorem moS_le (B : Bd) (i : Nat) : (moS B i).1 ≤ 64 ∧ (moS B i).2 ≤ i := by
  induction i with
  | zero => exact ⟨Nat.zero_le 64, Nat.le_refl 0⟩
  | succ i ih =>
    rw [moS_s]
    have := pc_le (gS B 0 i)
    split
    · exact ⟨this, by simp⟩
    · exact ⟨ih.1, by omega⟩

theorem OP17 (n : Nat) (b : Bool) (I : HI) (J : HJ) (a1 a2 a3 a4 : Int32) (h : Iv (n + 1) b I J) : Op17 (Iv n) b I J a1 a2 a3 a4 := by
  obtain ⟨B, nb, h⟩ := h
  have hB := h.1
  have h60 := hB.2.2.1
  have hX := h.2.1
  have hM0 := h.2.2.1
  have hTF := h.2.2.2.2.2.2.2.2.2
  have hN := h.2.2.2.2.1

  by_cases hW : bW B ≤ 7
  · have hp := p3_le hW
    skip
    refine srch h (fr_X11_most I J) (fun I1 J1 => fr_X12_most I1 J1) (by decide) (nI (moS B (3 ^ bW B)).1) (some [Int32.toInt64 (nI (moS B (3 ^ bW B)).2)]) ?_ ?_
    · unfold F_X11_most
      refine openX hB hW hX hTF.1 hTF.2.1 (fun I3 J4 hX3 hR s1 s2 => ?_)
      have hl : ∀ K k, k ≤ 3 ^ bW B → 3 ^ bW B - k < K → Ok (F_X11_most_L16 I3 J4 (fun (y8 : Int32) (y9 : Int32) => cl (F_X10_clear I3 J4) fun _ I10 J11 => cl (F_X10_add (Int32.toInt64 y9) I10 J11) fun _ I12 J13 => some (y8, I12, J13)) K (nI (moS B k).1) (nI (moS B k).2) (nI k)) (fun q => q.1 = nI (moS B (3 ^ bW B)).1 ∧ CTab B q.2.1 q.2.2 ∧ CFlow q.2.1 q.2.2 ∧ toX (some [Int32.toInt64 (nI (moS B (3 ^ bW B)).2)]) I J q.2.1 q.2.2) := by
        refine up ?_ ?_
        · intro K
          rw [F_X11_most_L16, if_pos (by rw [hR.1.2.1, n_le] <;> omega)]
          refine clr1 (fun I5 c1 c2 => add1 c1 (by simp) (fun I6 J6 d1 d2 d3 => Ok.mk ⟨rfl, ?_, ?_, d1⟩))
          · exact ((hR.k1 c2 Sm.rf).k1 d2 d3).tab
          · exact ((hR.k1 c2 Sm.rf).k1 d2 d3).2.2
        · intro K k hk ih
          have hm := moS_le B k
          have hpc := pc_le (gS B 0 k)
          rw [F_X11_most_L16, if_neg (by rw [hR.1.2.1, n_le] <;> omega)]
          rw [moS_s] at ih
          simp (disch := omega) only [lb, lit32, n_bx, n_cl, (hR.1.2.2.1 k hk).1, (hR.1.2.2.1 k hk).2, bcN, cp, Option.bind_some, b1_0, n_le, nI_1, nI_add]
          cases hc : clS B k with
          | false => rw [hc] at ih; refine Ok.t rfl ?_; simpa using ih
          | true =>
            rw [hc] at ih
            refine Ok.f (by simp) (Ok.ite (fun c => ?_) (fun c => ?_))
            · have : ¬ (moS B k).1 < pc (gS B 0 k) := by omega
              simpa [this] using ih
            · have : (moS B k).1 < pc (gS B 0 k) := by omega
              simpa [this] using ih
      exact hl bgf 0 (Nat.zero_le _) (by unfold bgf; omega)
    · intro I1 J1 hM hMo u1 u2
      have sT := th_s I1 0
      have hM2 : MB B (ui I1 m_self f_Model_thrown 0) := hM.keep (Ag.of sT (by decide))
      unfold F_X12_most
      refine Ok.lbv (Ok.cpe ((X12_can hB _ _ hM2).1 hW) (Ok.f (by decide) (allM hB hW hM2 (hMo.keep (Ag.of sT (by decide))) (fun I3 J4 hM3 hMo3 hfa hst t1 t2 => ?_))))
      have hl : ∀ K k, k ≤ 3 ^ bW B → 3 ^ bW B - k < K → ∀ x y, (k = 0 → x = -nI 1 ∧ y = nI 0) → (0 < k → x = nI (moS B k).2 ∧ y = nI (moS B k).1) → Ok (F_X12_most_L25 I3 J4 (fun (y14 : Int32) (y15 : Int32) => lb (ui I3 m_self f_Model_rowMany 0) fun I16 => cl (F_X12_tell (Int32.toInt64 y14) I16 J4) fun _ I17 J18 => some (y15, I17, J18)) K x y (nI k)) (fun q => q.1 = nI (moS B (3 ^ bW B)).1 ∧ CMod q.2.1 ∧ toM (some [Int32.toInt64 (nI (moS B (3 ^ bW B)).2)]) I1 J1 q.2.1 q.2.2) := by
        refine up ?_ ?_
        · intro K x y _ hxy
          have := hxy (Nat.pos_of_ne_zero (by simp))
          rw [F_X12_most_L25, hst]
          simp only [cp, Option.bind_some]
          rw [if_pos (by rw [n_le] <;> omega), this.1, this.2]
          refine clrM (fun I5 c1 c2 => tel1 c1 (by simp) (fun I6 J6 d1 d2 d3 => Ok.mk ⟨rfl, (hMo3.k1 c2).k1 d2, d1⟩))
        · intro K k hk ih x y h0 hxy
          have hm := moS_le B k
          have hpc := pc_le (gS B 0 k)
          rw [F_X12_most_L25, hst]
          simp only [cp, Option.bind_some]
          rw [if_neg (by rw [n_le] <;> omega)]
          simp (disch := omega) only [lb, lit32, n_bx, n_cl, (hfa k hk).1, (hfa k hk).2, bcN, Option.bind_some, b1_0, nI_1, nI_add]
          by_cases ck : k = 0
          · obtain ⟨e1, e2⟩ := h0 ck
            subst ck
            rw [clS_0 hB]
            refine Ok.t rfl (Ok.t e1 ?_)
            refine ih _ _ (fun h => by omega) (fun _ => ?_)
            have hz : pc (gS B 0 0) = 0 := by rw [gS_0 hB]; decide
            have hm0 : moS B 0 = (0, 0) := rfl
            rw [moS_s, hz, hm0]
            simp
          · obtain ⟨e1, e2⟩ := hxy (by omega)
            rw [e1, e2]
            rw [moS_s] at ih
            cases hc : clS B k with
            | false => rw [hc] at ih; refine Ok.f (by simp) ?_; exact ih _ _ (fun h => by omega) (fun _ => by simp)
            | true =>
              rw [hc] at ih
              refine Ok.t rfl (Ok.f (show ¬ nI (moS B k).2 = -nI 1 by rw [n_ne1 (by omega)]; simp) ?_)
              simp (disch := omega) only [n_lt]
              refine Ok.ite (fun c => ?_) (fun c => ?_)
              · exact ih _ _ (fun h => by omega) (fun _ => by simp [c])
              · exact ih _ _ (fun h => by omega) (fun _ => by simp [c])
      exact hl bgf 0 (Nat.zero_le _) (by unfold bgf; omega) _ _ (fun _ => ⟨rfl, rfl⟩) (fun h => by omega)
  · refine srch h (fr_X11_most I J) (fun I1 J1 => fr_X12_most I1 J1) (by decide) (-3) none ?_ ?_
    · unfold F_X11_most
      exact noX hB hW hX (Ok.mk ⟨rfl, hTF.1, hTF.2.1, rfl, rfl⟩)
    · intro I1 J1 hM hMo u1 u2
      have sT := th_s I1 0
      have hM2 : MB B (ui I1 m_self f_Model_thrown 0) := hM.keep (Ag.of sT (by decide))
      unfold F_X12_most
      exact Ok.lbv (Ok.cpe ((X12_can hB _ _ hM2).2 hW) (Ok.t (by decide) (Ok.mk ⟨rfl, hMo.keep (Ag.of sT (by decide)), toM_o sT (Sm.rf (w := [])) (by decide) (by decide)⟩)))

/-! LAYER 2: faults by their numbers; what the class shows with one -/
def prs (W : Nat) : List (Nat × Nat) := (List.range W).flatMap (fun a => ((List.range W).filter (fun b => decide (a < b))).map (fun b => (a, b)))
def prA (W i : Nat) : Nat := ((prs W).getD i (0, 0)).1
def prB (W i : Nat) : Nat := ((prs W).getD i (0, 0)).2
def nP (W : Nat) : Nat := W * (W - 1) / 2
def nF (B : Bd) : Nat := 1 + bW B + nP (bW B) + bL B
def ftK (W f : Nat) : Nat := if f = 0 then 0 else if f < 1 + W then 1 else if f < 1 + W + nP W then 2 else 3
def ftA (W f : Nat) : Nat := if ftK W f = 1 then f - 1 else if ftK W f = 2 then prA W (f - 1 - W) else f - (1 + W + nP W)
def ftB (W f : Nat) : Nat := if ftK W f = 2 then prB W (f - 1 - W) else 0
def fAi (W f : Nat) : Int32 := if f = 0 then -nI 1 else nI (ftA W f)
def fBi (W f : Nat) : Int32 := if ftK W f = 2 then nI (ftB W f) else -nI 1
theorem nP_all : ∀ W : Fin 11, nP W.val ≤ 45 ∧ (2 ≤ W.val → nI W.val * (nI W.val - nI 1) / nI 2 = nI (nP W.val)) := by decide +kernel
theorem nP_le {W : Nat} (h : W ≤ 10) : nP W ≤ 45 := (nP_all ⟨W, by omega⟩).1
theorem nP_i {W : Nat} (h2 : 2 ≤ W) (h : W ≤ 10) : nI W * (nI W - nI 1) / nI 2 = nI (nP W) := (nP_all ⟨W, by omega⟩).2 h2
theorem pr_all : ∀ W : Fin 11, ∀ i : Fin 45, i.val < nP W.val → prA W.val i.val < prB W.val i.val ∧ prB W.val i.val < W.val := by decide +kernel
theorem nz2 {α : Type} (f : Option α) : nzi (nI 2) f = f := by unfold nzi; rw [if_neg (by decide)]
theorem X7_touch {W : Nat} {I : HI} {J : HJ} (hW : I x_board f_Board_wide = nI W) : F_X7_firstTouch I J = some (nI (1 + W)) := by
  unfold F_X7_firstTouch; rw [hW]; simp only [lit32, nI_add]
theorem X7_turned {W : Nat} {I : HI} {J : HJ} (h2 : 2 ≤ W) (h : W ≤ 10) (hW : I x_board f_Board_wide = nI W) : F_X7_firstTurned I J = some (nI (1 + W + nP W)) := by
  unfold F_X7_firstTurned
  rw [X7_touch hW, hW]
  simp only [lit32, cp, Option.bind_some, nz2]
  rw [nP_i h2 h, nI_add]
theorem X7_kind {W f : Nat} {I : HI} {J : HJ} (h2 : 2 ≤ W) (h : W ≤ 10) (hf : f < 1000) (hW : I x_board f_Board_wide = nI W) : F_X7_kindOf (nI f) I J = some (nI (ftK W f)) := by
  have := nP_le h
  unfold F_X7_kindOf
  rw [X7_touch hW, X7_turned h2 h hW]
  simp (disch := omega) only [lit32, cp, Option.bind_some, n_eq, n_le]
  unfold ftK
  by_cases c0 : f = 0
  · rw [if_pos c0, if_pos c0]
  · rw [if_neg c0, if_neg c0]
    by_cases c1 : f < 1 + W
    · rw [if_neg (by omega), if_pos c1]
    · rw [if_pos (by omega), if_neg c1]
      by_cases c2 : f < 1 + W + nP W
      · rw [if_neg (by omega), if_pos c2]
      · rw [if_pos (by omega), if_neg c2]
/-- the class's search of a pair's first wire, by numbers alone -/
def fpS (Wv f l : Int32) : Int32 := (((f - (nI 1 + Wv)) - ((l * (((nI 2 * Wv) - l) - nI 1)) / nI 2)) + l) + nI 1
def fpI : Nat → Int32 → Int32 → Int32 → Option Int32
  | 0, _, _, _ => none
  | K+1, l2, l3, l4 => if l4 ≤ nI 0 then some l2 else (if l3 < l4 then some l2 else fpI K (l2 + nI 1) (l3 - l4) (l4 + (-nI 1)))
theorem X7_sp (f l : Int32) (I : HI) (J : HJ) : F_X7_secondOfPair f l I J = some (fpS (I x_board f_Board_wide) f l) := by
  unfold F_X7_secondOfPair F_X7_firstTouch
  simp only [lit32, cp, Option.bind_some, nz2]; rfl
theorem X7_fp_L (I : HI) (J : HJ) : ∀ K l2 l3 l4, F_X7_firstOfPair_L20 I J K l2 l3 l4 = fpI K l2 l3 l4 := by
  intro K
  induction K with
  | zero => intro l2 l3 l4; rfl
  | succ K ih =>
    intro l2 l3 l4
    rw [F_X7_firstOfPair_L20, fpI]
    simp only [lb, ih, lit32]
theorem fp_all : ∀ W : Fin 11, 2 ≤ W.val → ∀ i : Fin 45, i.val < nP W.val → fpI bgf (nI 0) (nI (1 + W.val + i.val) - nI (1 + W.val)) (nI W.val - nI 1) = some (nI (prA W.val i.val)) ∧ fpS (nI W.val) (nI (1 + W.val + i.val)) (nI (prA W.val i.val)) = nI (prB W.val i.val) := by decide +kernel
theorem X7_fp {W f : Nat} {I : HI} {J : HJ} (h2 : 2 ≤ W) (h : W ≤ 10) (h1 : ¬ f < 1 + W) (h3 : f < 1 + W + nP W) (hW : I x_board f_Board_wide = nI W) : F_X7_firstOfPair (nI f) I J = some (nI (prA W (f - 1 - W))) ∧ F_X7_secondOfPair (nI f) (nI (prA W (f - 1 - W))) I J = some (nI (prB W (f - 1 - W))) := by
  have h45 := nP_le h
  have e : f = 1 + W + (f - 1 - W) := by omega
  have := fp_all ⟨W, by omega⟩ h2 ⟨f - 1 - W, by omega⟩ (by simp only; omega)
  simp only at this
  rw [← e] at this
  unfold F_X7_firstOfPair
  rw [X7_sp, X7_touch hW, hW]
  simp only [lb, cp, Option.bind_some, X7_fp_L, lit32]
  exact ⟨this.1, congrArg some this.2⟩
theorem X7_first {W f : Nat} {I : HI} {J : HJ} (h2 : 2 ≤ W) (h : W ≤ 10) (hf : f < 1000) (hW : I x_board f_Board_wide = nI W) : F_X7_firstOf (nI f) I J = some (fAi W f) := by
  have := nP_le h
  unfold F_X7_firstOf
  rw [X7_touch hW, X7_turned h2 h hW]
  simp (disch := omega) only [lit32, cp, Option.bind_some, n_eq, n_le]
  unfold fAi ftA ftK
  by_cases c0 : f = 0
  · rw [if_pos c0, if_pos c0]
  · simp only [if_neg c0]
    by_cases c1 : f < 1 + W
    · rw [if_neg (by omega), if_pos c1, if_pos rfl, n_sub (by omega)]
    · rw [if_pos (by omega)]
      simp only [if_neg c1]
      by_cases c2 : f < 1 + W + nP W
      · rw [if_neg (by omega), (X7_fp h2 h c1 c2 hW).1]
        simp only [if_pos c2]
        rfl
      · rw [if_pos (by omega), n_sub (by omega)]
        simp only [if_neg c2]
        rfl
theorem ftK_r2 {W f : Nat} (c : ftK W f = 2) : ¬ f < 1 + W ∧ f < 1 + W + nP W := by
  unfold ftK at c
  by_cases c0 : f = 0
  · rw [if_pos c0] at c; omega
  · rw [if_neg c0] at c
    by_cases c1 : f < 1 + W
    · rw [if_pos c1] at c; omega
    · rw [if_neg c1] at c
      by_cases c2 : f < 1 + W + nP W
      · exact ⟨c1, c2⟩
      · rw [if_neg c2] at c; omega
theorem X7_second {W f : Nat} {I : HI} {J : HJ} (h2 : 2 ≤ W) (h : W ≤ 10) (hf : f < 1000) (hW : I x_board f_Board_wide = nI W) : F_X7_secondOf (nI f) I J = some (fBi W f) := by
  unfold F_X7_secondOf
  rw [X7_kind h2 h hf hW]
  have hk : ftK W f ≤ 3 := by
    unfold ftK
    repeat' split
    all_goals omega
  simp (disch := omega) only [lit32, cp, Option.bind_some, n_eq]
  unfold fBi ftB
  by_cases c : ftK W f = 2
  · rw [if_pos c, if_pos c, if_pos c]
    have hc := ftK_r2 c
    obtain ⟨g1, g2⟩ := X7_fp (J := J) h2 h hc.1 hc.2 hW
    rw [g1]
    simp only [Option.bind_some]
    rw [g2]
    rfl
  · rw [if_neg c, if_neg c]
/-- what kind a fault is, and its bounds -/
theorem fK_cases {B : Bd} (hB : OkB B) {f : Nat} (hf : f < nF B) : (ftK (bW B) f = 0 ∧ f = 0) ∨ (ftK (bW B) f = 1 ∧ ftA (bW B) f < bW B ∧ f ≠ 0) ∨ (ftK (bW B) f = 2 ∧ ftA (bW B) f < ftB (bW B) f ∧ ftB (bW B) f < bW B ∧ f ≠ 0) ∨ (ftK (bW B) f = 3 ∧ ftA (bW B) f < bL B ∧ f ≠ 0) := by
  have hW := hB.2.1
  have h2 := hB.1
  have h45 := nP_le hW
  unfold nF at hf
  by_cases c0 : f = 0
  · left; unfold ftK; rw [if_pos c0]; exact ⟨rfl, c0⟩
  · by_cases c1 : f < 1 + bW B
    · right; left
      have hk : ftK (bW B) f = 1 := by unfold ftK; rw [if_neg c0, if_pos c1]
      refine ⟨hk, ?_, c0⟩
      unfold ftA; rw [if_pos hk]; omega
    · by_cases c2 : f < 1 + bW B + nP (bW B)
      · right; right; left
        have hk : ftK (bW B) f = 2 := by unfold ftK; rw [if_neg c0, if_neg c1, if_pos c2]
        have := pr_all ⟨bW B, by omega⟩ ⟨f - 1 - bW B, by omega⟩ (by simp only; omega)
        simp only at this
        unfold ftA ftB
        rw [hk]
        exact ⟨rfl, this.1, this.2, c0⟩
      · right; right; right
        have hk : ftK (bW B) f = 3 := by unfold ftK; rw [if_neg c0, if_neg c1, if_neg c2]
        unfold ftA; rw [hk]
        refine ⟨rfl, ?_, c0⟩
        simp only [show ¬ (3 = 1) by decide, show ¬ (3 = 2) by decide, if_false]
        omega
def okS (h l : Nat → Bool) : Prop := ∀ w, (h w && l w) = false
theorem EO_f {B : Bd} (hB : OkB B) {f : Nat} (hf : f < nF B) {h l : Nat → Bool} (hd : okS h l) (hc : cfl (ftK (bW B) f) (ftA (bW B) f) (ftB (bW B) f) h l = false) : EO B (ed B (ftK (bW B) f) (ftA (bW B) f) (ftB (bW B) f)) (hiE (ftK (bW B) f) (ftA (bW B) f) (ftB (bW B) f) h) (hiE (ftK (bW B) f) (ftA (bW B) f) (ftB (bW B) f) l) (ohE B (ftK (bW B) f) (ftA (bW B) f) (ftB (bW B) f) h l) := by
  have hW := hB.2.1
  rcases fK_cases hB hf with ⟨hk, _⟩ | ⟨hk, ha, _⟩ | ⟨hk, hab, hb, _⟩ | ⟨hk, ha, _⟩ <;> rw [hk] at hc ⊢ <;> generalize ftA (bW B) f = a at * <;> generalize ftB (bW B) f = b at *
  · refine ⟨fun k w v hk' he => ?_, fun w => by simpa [hiE] using hd w, fun w hw => ?_⟩
    · simp [ed] at he
      have := hB.2.2.2.2.2.2.2.2.2 k hk'
      rw [← he.1, ← he.2]; exact ⟨this.1, this.2.1, this.2.2.1⟩
    · simp only [ohE]; simp; exact hB.2.2.2.2.2.2.2.2.1 w (by omega)
  · refine ⟨fun k w v hk' he => ?_, fun w => by simpa [hiE] using hd w, fun w hw => ?_⟩
    · simp only [ed, if_true] at he
      have := hB.2.2.2.2.2.2.2.2.2 k hk'
      split at he
      · cases he
      · simp only [Option.some.injEq, Prod.mk.injEq] at he
        rw [← he.1, ← he.2]; exact ⟨this.1, this.2.1, this.2.2.1⟩
    · simp only [ohE]; simp; exact hB.2.2.2.2.2.2.2.2.1 w (by omega)
  · refine ⟨fun k w v hk' he => ?_, fun w => ?_, fun w hw => ?_⟩
    · have := hB.2.2.2.2.2.2.2.2.2 k hk'
      obtain ⟨g1, g2, g3⟩ := ed2 he
      refine ⟨?_, ?_, g3⟩
      · rw [← g1]; split <;> omega
      · rw [← g2]; split <;> omega
    · simp only [hiE, if_true]
      by_cases c1 : w = b
      · rw [if_pos c1]; rfl
      · rw [if_neg c1, if_neg c1]
        by_cases c2 : w = a
        · rw [if_pos c2, if_pos c2]
          have d1 := hd a
          have d2 := hd b
          unfold cfl at hc
          revert d1 d2 hc
          generalize h a = p1
          generalize h b = p2
          generalize l a = p3
          generalize l b = p4
          cases p1 <;> cases p2 <;> cases p3 <;> cases p4 <;> decide
        · rw [if_neg c2, if_neg c2]; exact hd w
    · unfold ohE
      split
      · exact hB.2.2.2.2.2.2.2.2.1 b (by omega)
      · exact hB.2.2.2.2.2.2.2.2.1 w (by omega)
  · refine ⟨fun k w v hk' he => ?_, fun w => by simpa [hiE] using hd w, fun w hw => ?_⟩
    · have := hB.2.2.2.2.2.2.2.2.2 k hk'
      by_cases c : k = a
      · simp [ed, c] at he
        rw [c] at this
        rw [← he.1, ← he.2]; exact ⟨this.2.1, this.1, fun h => this.2.2.1 h.symm⟩
      · simp [ed, c] at he
        rw [← he.1, ← he.2]; exact ⟨this.1, this.2.1, this.2.2.1⟩
    · simp only [ohE]; simp; exact hB.2.2.2.2.2.2.2.2.1 w (by omega)
def ptF (B : Bd) (f : Nat) (h l : Nat → Bool) : List Pa := pths B (ftK (bW B) f) (ftA (bW B) f) (ftB (bW B) f) h l
def gwF (B : Bd) (f : Nat) (h l : Nat → Bool) : Int64 := gwT B (ptF B f h l)
theorem ptF_n {B : Bd} {f : Nat} {h l : Nat → Bool} (hc : cfl (ftK (bW B) f) (ftA (bW B) f) (ftB (bW B) f) h l = false) : ptF B f h l = paS B (ed B (ftK (bW B) f) (ftA (bW B) f) (ftB (bW B) f)) (hiE (ftK (bW B) f) (ftA (bW B) f) (ftB (bW B) f) h) (hiE (ftK (bW B) f) (ftA (bW B) f) (ftB (bW B) f) l) (ohE B (ftK (bW B) f) (ftA (bW B) f) (ftB (bW B) f) h l) := by
  unfold ptF pths; rw [hc]; rfl
theorem ptF_c {B : Bd} {f : Nat} {h l : Nat → Bool} (hc : cfl (ftK (bW B) f) (ftA (bW B) f) (ftB (bW B) f) h l = true) : ptF B f h l = [] := by
  unfold ptF pths; rw [hc]; rfl
/-- all paths are in their bounds -/
theorem ptF_ok {B : Bd} (hB : OkB B) {f : Nat} (hf : f < nF B) {h l : Nat → Bool} (hd : okS h l) : (∀ q, q ∈ ptF B f h l → okP q) ∧ (∀ k, liT (ptF B f h l) k < 10000000000000) ∧ (∀ k, onT (ptF B f h l) k = true → k < bL B) := by
  cases hc : cfl (ftK (bW B) f) (ftA (bW B) f) (ftB (bW B) f) h l with
  | true => rw [ptF_c hc]; refine ⟨by simp, by simp [liT], by simp [onT]⟩
  | false =>
    rw [ptF_n hc]
    have hE := EO_f hB hf hd hc
    exact ⟨paS_ok hB hE, paS_bd hB hE, fun k => paS_lt⟩
theorem RX_lit {B : Bd} {wt : Option Nat} {ps : List Pa} {I : HI} {J : HJ} (h : RX wt ps I J) (h0 : ∀ q, q ∈ ps → okP q) : litOk J := by
  intro k hk hb
  rw [h.2.1 k hk, ← li_on ps (fun q hq => (h0 q hq).2.2.2.2.1)] at hb
  rw [h.1 k hk]
  congr 1
  simpa using hb
def gQ (B : Bd) (wt : Option Nat) (f : Nat) (h l : Int32) (q : Int64 × HI × HJ) : Prop := q.1 = gwF B f (bi h) (bi l) ∧ RX wt (ptF B f (bi h) (bi l)) q.2.1 q.2.2
theorem wt0_k {wt : Option Nat} {I I' : HI} {J J' : HJ} (h : wt0 wt I J) (a : Ag [(x_flow, some f_Flow_watched), (x_flow, some f_Flow_passing), (x_flow, some f_Flow_bestSize)] I I') (b : Ag [(x_flow, some f_Flow_best)] J J') : wt0 wt I' J' := by
  refine ⟨by rw [a _ _ rfl]; exact h.1, fun c hc => ?_⟩
  rw [a _ _ rfl, a _ _ rfl, b _ _ rfl]; exact h.2 c hc
theorem litOk_k {J J' : HJ} (h : litOk J) (b : Ag [(x_flow, some f_Flow_lit), (x_flow_light, none)] J J') : litOk J' := by
  intro k hk
  rw [b _ _ rfl, b _ _ rfl]; exact h k hk
theorem X1_glowing {B : Bd} (hB : OkB B) (wt : Option Nat) (hwo : wtOk wt) (h l : Int32) (hd : okS (bi h) (bi l)) (I : HI) (J : HJ) (hX : XB B I J) (hl : litOk J) (hw : wt0 wt I J) : Ok (cl (F_X1_lay h l I J) fun _ I1 J1 => F_X1_run I1 J1) (gQ B wt 0 h l) := by
  refine Ok.call ((X1_lay hB h l I J hX).fo (fr_X1_lay h l I J)) (fun r I1 J1 _ hP => ?_)
  obtain ⟨q1, q2, q3⟩ := hP
  simp only at q1 q2 q3
  have hX1 : XB B I1 J1 := hX.keep (Ag.of q2 (by decide)) (Ag.of q3 (by decide))
  have hk : ftK (bW B) 0 = 0 := by unfold ftK; rw [if_pos rfl]
  have hc : cfl (ftK (bW B) 0) (ftA (bW B) 0) (ftB (bW B) 0) (bi h) (bi l) = false := by rw [hk]; rfl
  have hE := EO_f hB (f := 0) (by unfold nF; omega) hd hc
  have hF := FX_0 hB (ftA (bW B) 0) (ftB (bW B) 0) h l I1 J1 hX1 q1
  have := X1_run hB hE wt hwo I1 J1 (by rw [hk]; exact hF) (litOk_k hl (Ag.of q3 (by decide))) (wt0_k hw (Ag.of q2 (by decide)) (Ag.of q3 (by decide)))
  unfold gQ gwF
  rw [ptF_n hc]
  exact this
theorem X7_glowWith {B : Bd} (hB : OkB B) (f : Nat) (hf : f < nF B) (h l : Int32) (hd : okS (bi h) (bi l)) (I : HI) (J : HJ) (hX : XB B I J) (hl : litOk J) (hw : wt0 none I J) : Ok (F_X7_glowWith (nI f) h l I J) (gQ B none f h l) := by
  have hW := hB.2.1
  have h2 := hB.1
  have h60 := hB.2.2.1
  have h45 := nP_le hW
  have hf1 : f < 1000 := by unfold nF at hf; omega
  unfold F_X7_glowWith
  refine Ok.call ((X1_lay hB h l I J hX).fo (fr_X1_lay h l I J)) (fun r I1 J1 _ hP => ?_)
  obtain ⟨q1, q2, q3⟩ := hP
  simp only at q1 q2 q3
  have hX1 : XB B I1 J1 := hX.keep (Ag.of q2 (by decide)) (Ag.of q3 (by decide))
  have hw1 := wt0_k hw (Ag.of q2 (by decide)) (Ag.of q3 (by decide))
  have hl1 := litOk_k hl (Ag.of q3 (by decide))
  refine Ok.cpe (X7_kind h2 hW hf1 hX1.1) (Ok.lbv ?_)
  have hk3 : ftK (bW B) f ≤ 3 := by rcases fK_cases hB hf with ⟨hk, _⟩ | ⟨hk, _⟩ | ⟨hk, _⟩ | ⟨hk, _⟩ <;> omega
  have kn : ∀ k, k < 10 → ftK (bW B) f ≠ k → ¬ nI (ftK (bW B) f) = nI k := fun k h1 h2 => by rw [n_eq (by omega) (by omega)]; exact h2
  have fin : ∀ I2 J2, (cfl (ftK (bW B) f) (ftA (bW B) f) (ftB (bW B) f) (bi h) (bi l) = true → I2 x_flow f_Flow_high = nI 0) → (cfl (ftK (bW B) f) (ftA (bW B) f) (ftB (bW B) f) (bi h) (bi l) = false → FX B (ed B (ftK (bW B) f) (ftA (bW B) f) (ftB (bW B) f)) (hiE (ftK (bW B) f) (ftA (bW B) f) (ftB (bW B) f) (bi h)) (hiE (ftK (bW B) f) (ftA (bW B) f) (ftB (bW B) f) (bi l)) (ohE B (ftK (bW B) f) (ftA (bW B) f) (ftB (bW B) f) (bi h) (bi l)) I2 J2) → litOk J2 → wt0 none I2 J2 → Ok (cl (F_X1_run I2 J2) fun r7 I8 J9 => some (r7, I8, J9)) (gQ B none f h l) := by
    intro I2 J2 g1 g2 g3 g4
    cases hc : cfl (ftK (bW B) f) (ftA (bW B) f) (ftB (bW B) f) (bi h) (bi l) with
    | true =>
      refine Ok.call (X1_run0 hB none I2 J2 (g1 hc) g3 g4) (fun r I3 J3 _ hP => Ok.mk ?_)
      unfold gQ gwF
      rw [ptF_c hc]
      exact hP
    | false =>
      refine Ok.call (X1_run hB (EO_f hB hf hd hc) none trivial I2 J2 (g2 hc) g3 g4) (fun r I3 J3 _ hP => Ok.mk ?_)
      unfold gQ gwF
      rw [ptF_n hc]
      exact hP
  rcases fK_cases hB hf with ⟨hk, h0⟩ | ⟨hk, ha, h0⟩ | ⟨hk, hab, hb, h0⟩ | ⟨hk, ha, h0⟩
  · refine Ok.f (kn 1 (by omega) (by omega)) (Ok.f (kn 2 (by omega) (by omega)) (Ok.f (kn 3 (by omega) (by omega)) ?_))
    refine fin I1 J1 (fun hc => by rw [hk] at hc; cases hc) (fun _ => ?_) hl1 hw1
    rw [hk]
    exact FX_0 hB _ _ h l I1 J1 hX1 q1
  · refine Ok.t (show nI (ftK (bW B) f) = nI 1 by rw [hk]) (Ok.cpe (X7_first h2 hW hf1 hX1.1) ?_)
    have e1 : fAi (bW B) f = nI (ftA (bW B) f) := by unfold fAi; rw [if_neg h0]
    rw [e1]
    refine Ok.call ((X1_cut hB (ftA (bW B) f) (ftB (bW B) f) ha h l I1 J1 hX1 q1).fo (fr_X1_cut _ I1 J1)) (fun r I2 J2 _ hP => ?_)
    obtain ⟨t1, t2, t3⟩ := hP
    simp only at t1 t2 t3
    refine fin I2 J2 (fun hc => by rw [hk] at hc; cases hc) (fun _ => ?_) (litOk_k hl1 (Ag.of t3 (by decide))) (wt0_k hw1 (Ag.of t2 (by decide)) (Ag.of t3 (by decide)))
    rw [hk]; exact t1
  · refine Ok.f (kn 1 (by omega) (by omega)) (Ok.t (show nI (ftK (bW B) f) = nI 2 by rw [hk]) ?_)
    have hc := ftK_r2 hk
    have eA : prA (bW B) (f - 1 - bW B) = ftA (bW B) f := by unfold ftA; rw [if_neg (by omega), if_pos hk]
    have eB : prB (bW B) (f - 1 - bW B) = ftB (bW B) f := by unfold ftB; rw [if_pos hk]
    obtain ⟨g1, g2⟩ := X7_fp (J := J1) h2 hW hc.1 hc.2 hX1.1
    rw [eA] at g1 g2
    rw [eB] at g2
    refine Ok.cpe g1 (Ok.cpe g2 ?_)
    refine Ok.call ((X1_join hB (ftA (bW B) f) (ftB (bW B) f) (by omega) hb (by omega) h l hd I1 J1 hX1 q1).fo (fr_X1_join _ _ I1 J1)) (fun r I2 J2 _ hP => ?_)
    obtain ⟨t1, t2, t3⟩ := hP
    simp only at t1 t2 t3
    refine fin I2 J2 (fun hc => ?_) (fun hc => ?_) (litOk_k hl1 (Ag.of t3 (by decide))) (wt0_k hw1 (Ag.of t2 (by decide)) (Ag.of t3 (by decide)))
    · rw [hk] at hc; rw [hc] at t1; simpa using t1
    · rw [hk] at hc ⊢; rw [hc] at t1; simpa using t1
  · refine Ok.f (kn 1 (by omega) (by omega)) (Ok.f (kn 2 (by omega) (by omega)) (Ok.t (show nI (ftK (bW B) f) = nI 3 by rw [hk]) (Ok.cpe (X7_first h2 hW hf1 hX1.1) ?_)))
    have e1 : fAi (bW B) f = nI (ftA (bW B) f) := by unfold fAi; rw [if_neg h0]
    rw [e1]
    refine Ok.call ((X1_turn hB (ftA (bW B) f) (ftB (bW B) f) ha h l I1 J1 hX1 q1).fo (fr_X1_turn _ I1 J1)) (fun r I2 J2 _ hP => ?_)
    obtain ⟨t1, t2, t3⟩ := hP
    simp only at t1 t2 t3
    refine fin I2 J2 (fun hc => by rw [hk] at hc; cases hc) (fun _ => ?_) (litOk_k hl1 (Ag.of t3 (by decide))) (wt0_k hw1 (Ag.of t2 (by decide)) (Ag.of t3 (by decide)))
    rw [hk]; exact t1

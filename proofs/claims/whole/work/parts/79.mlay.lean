/-! LAYER 2: the reference's lay, begin, shine, glowing -/
theorem X12_touch {W : Nat} {I : HI} {J : HJ} (hW : I m_self f_Model_wide = nI W) : F_X12_touchFirst I J = some (nI (1 + W)) := by
  unfold F_X12_touchFirst; rw [hW]; simp only [lit32, nI_add]
theorem X12_turned {W : Nat} {I : HI} {J : HJ} (h2 : 2 ≤ W) (h : W ≤ 10) (hW : I m_self f_Model_wide = nI W) : F_X12_turnedFirst I J = some (nI (1 + W + nP W)) := by
  unfold F_X12_turnedFirst
  rw [hW]
  simp only [lit32, nz2]
  rw [nP_i h2 h, nI_add, nI_add]
theorem X12_kind {W f : Nat} {I : HI} {J : HJ} (h2 : 2 ≤ W) (h : W ≤ 10) (hf : f < 1000) (hW : I m_self f_Model_wide = nI W) : F_X12_kindOf (nI f) I J = some (nI (ftK W f)) := by
  have := nP_le h
  unfold F_X12_kindOf
  rw [X12_touch hW, X12_turned h2 h hW]
  simp (disch := omega) only [lit32, cp, Option.bind_some, n_eq, n_le]
  unfold ftK
  by_cases c0 : f = 0
  · rw [if_pos c0, if_pos c0]
  · rw [if_neg c0, if_neg c0]
    by_cases c1 : f < 1 + W
    · rw [if_neg (by omega), if_pos c1]
    · rw [if_pos (by omega), if_neg c1]
      by_cases c2 : f < 1 + W + nP W
      · rw [if_neg (by omega), if_pos c2]
      · rw [if_pos (by omega), if_neg c2]
def flI (Wv : Int32) : Nat → Int32 → Int32 → Option (Int32 × Int32)
  | 0, _, _ => none
  | K+1, l, a => if l < (Wv - nI 1) - a then some (l, a) else flI Wv K (l - ((Wv - nI 1) - a)) (a + nI 1)
theorem fl_all : ∀ W : Fin 11, 2 ≤ W.val → ∀ i : Fin 45, i.val < nP W.val → flI (nI W.val) bgf (nI i.val) (nI 0) = some (nI (prB W.val i.val - prA W.val i.val - 1), nI (prA W.val i.val)) := by decide +kernel
theorem X12_ff_L (J : HJ) (Wv l' a' : Int32) (kx : Int32 → HI → Option (Unit × HI × HJ)) (Q : Unit × HI × HJ → Prop) (I0 : HI) (hx : ∀ I, I m_self f_Model_faultA = a' → Sm [(m_self, some f_Model_faultA)] I0 I → Ok (kx l' I) Q) :
    ∀ K l I, I m_self f_Model_wide = Wv → Sm [(m_self, some f_Model_faultA)] I0 I → flI Wv K l (I m_self f_Model_faultA) = some (l', a') → Ok (F_X12_findFault_L62 J kx K l I) Q := by
  intro K
  induction K with
  | zero => intro l I _ _ h; cases h
  | succ K ih =>
    intro l I hW hs h
    rw [flI] at h
    rw [F_X12_findFault_L62, hW]
    simp only [lit32, lb]
    by_cases c : l < (Wv - nI 1) - I m_self f_Model_faultA
    · rw [if_pos c] at h ⊢
      simp only [Option.some.injEq, Prod.mk.injEq] at h
      rw [h.1]
      exact hx I h.2 hs
    · rw [if_neg c] at h ⊢
      refine ih _ _ (by rw [ui_j (by decide)]; exact hW) (Sm.mi rfl hs) ?_
      rw [ui_r]; exact h
theorem ftK_2 {W f : Nat} (c : ftK W f = 2) : ¬ f < 1 + W ∧ f < 1 + W + nP W ∧ f ≠ 0 := by
  unfold ftK at c
  by_cases c0 : f = 0
  · rw [if_pos c0] at c; omega
  · rw [if_neg c0] at c
    by_cases c1 : f < 1 + W
    · rw [if_pos c1] at c; omega
    · rw [if_neg c1] at c
      by_cases c2 : f < 1 + W + nP W
      · exact ⟨c1, c2, c0⟩
      · rw [if_neg c2] at c; omega
theorem X12_findFault {B : Bd} (hB : OkB B) {f : Nat} (hf : f < nF B) (I : HI) (J : HJ) (hW : I m_self f_Model_wide = nI (bW B)) : Ok (F_X12_findFault (nI f) I J) (fun q => q.2.1 m_self f_Model_faultA = fAi (bW B) f ∧ q.2.1 m_self f_Model_faultB = fBi (bW B) f) := by
  have hw := hB.2.1
  have h2 := hB.1
  have h60 := hB.2.2.1
  have h45 := nP_le hw
  have hf1 : f < 1000 := by unfold nF at hf; omega
  unfold F_X12_findFault
  rw [X12_kind h2 hw hf1 hW, X12_turned h2 hw hW]
  have hk3 : ftK (bW B) f ≤ 3 := by rcases fK_cases hB hf with ⟨hk, _⟩ | ⟨hk, _⟩ | ⟨hk, _⟩ | ⟨hk, _⟩ <;> omega
  simp (disch := omega) only [cp, Option.bind_some, lb, lit32, n_eq]
  have hWu : ∀ y, (ui (ui I m_self f_Model_faultA y) m_self f_Model_faultB (-nI 1)) m_self f_Model_wide = nI (bW B) := fun y => by rw [ui_j (by decide), ui_j (by decide)]; exact hW
  rcases fK_cases hB hf with ⟨hk, h0⟩ | ⟨hk, ha, h0⟩ | ⟨hk, hab, hb, h0⟩ | ⟨hk, ha, h0⟩
  · rw [if_pos hk, if_neg (by omega)]
    refine Ok.mk ?_
    dsimp only
    refine ⟨by rw [ui_j (by decide), ui_r]; unfold fAi; rw [if_pos h0], by rw [ui_r]; unfold fBi; rw [if_neg (by omega)]⟩
  · rw [if_neg (by omega), if_pos hk, if_neg (by omega)]
    refine Ok.mk ?_
    dsimp only
    refine ⟨?_, by rw [ui_r]; unfold fBi; rw [if_neg (by omega)]⟩
    rw [ui_j (by decide), ui_r]; unfold fAi ftA; rw [if_neg h0, if_pos hk, n_sub (by omega)]
  · obtain ⟨d1, d2, d3⟩ := ftK_2 hk
    rw [if_neg (by omega), if_neg (by omega), if_neg (by omega), if_pos hk]
    rw [X12_touch (hWu _)]
    simp only [Option.bind_some]
    rw [n_sub (by omega)]
    have hfl := fl_all ⟨bW B, by omega⟩ h2 ⟨f - (1 + bW B), by omega⟩ (by simp only; omega)
    simp only at hfl
    have hi : f - (1 + bW B) = f - 1 - bW B := by omega
    rw [hi] at hfl ⊢
    have hab' : prA (bW B) (f - 1 - bW B) < prB (bW B) (f - 1 - bW B) := by
      have := (pr_all ⟨bW B, by omega⟩ ⟨f - 1 - bW B, by omega⟩ (by simp only; omega)).1
      exact this
    refine X12_ff_L J (nI (bW B)) _ _ _ _ (ui (ui I m_self f_Model_faultA (nI 0)) m_self f_Model_faultB (-nI 1)) ?_ bgf _ _ (hWu _) Sm.rf (by rw [ui_j (by decide), ui_r]; exact hfl)
    intro I2 e1 s1
    refine Ok.mk ?_
    dsimp only
    rw [ui_j (by decide), ui_r, e1]
    refine ⟨?_, ?_⟩
    · unfold fAi ftA; rw [if_neg h0, if_neg (by omega), if_pos hk]
    · unfold fBi ftB; rw [if_pos hk, if_pos hk, nI_add, nI_add]; congr 1; omega
  · rw [if_neg (by omega), if_neg (by omega), if_pos hk, if_neg (by omega)]
    refine Ok.mk ?_
    dsimp only
    refine ⟨?_, by rw [ui_r]; unfold fBi; rw [if_neg (by omega)]⟩
    rw [ui_j (by decide), ui_r]; unfold fAi ftA
    rw [if_neg h0, if_neg (by omega), if_neg (by omega)]
    have : ¬ f < 1 + bW B + nP (bW B) := by
      intro h
      unfold ftK at hk
      rw [if_neg h0] at hk
      by_cases c1 : f < 1 + bW B
      · rw [if_pos c1] at hk; omega
      · rw [if_neg c1, if_pos h] at hk; omega
    rw [n_sub (by omega)]
def ldM (B : Bd) (k a b : Nat) (I : HI) : Prop := I m_self f_Model_laidKind = nI k ∧ (k ≠ 0 → I m_self f_Model_laidA = nI a) ∧ (k = 2 → I m_self f_Model_laidB = nI b)
def okK (B : Bd) (k a b : Nat) : Prop := k = 0 ∨ (k = 1 ∧ a < bW B) ∨ (k = 2 ∧ a < b ∧ b < bW B) ∨ (k = 3 ∧ a < bL B)
theorem nx_some {e : Nat → Option (Nat × Nat)} {w i u v : Nat} (h : e i = some (u, v)) : nxL e (fun _ => true) w i = decide (u = w) ∧ gtE e i = v := by
  unfold nxL gtE; rw [h]; simp
theorem nx_none {e : Nat → Option (Nat × Nat)} {w i : Nat} (h : e i = none) : nxL e (fun _ => true) w i = false := by
  unfold nxL; rw [h]
theorem X12_lay_st {B : Bd} (hB : OkB B) {k a b : Nat} (hk : okK B k a b) (w n i : Nat) (hw : w < bW B) (hi : i < bL B) (hn : nxL (ed B k a b) (fun _ => true) w i = true → n < 60) (J : HJ) (kx : Int32 → HI → Option (Unit × HI × HJ)) (K : Nat) (I : HI) (hL : I m_self f_Model_lamps = nI (bL B)) (hld : ldM B k a b I) (hft : I m_lampFrom i = nI (bA B i) ∧ I m_lampTo i = nI (bG B i)) :
    F_X12_lay_L52 (nI w) J kx (K + 1) (nI n) (nI i) I = (if nxL (ed B k a b) (fun _ => true) w i = true then F_X12_lay_L52 (nI w) J kx K (nI (n + 1)) (nI (i + 1)) (ui (ui I m_list n (nI i)) m_goesTo n (nI (gtE (ed B k a b) i))) else F_X12_lay_L52 (nI w) J kx K (nI n) (nI (i + 1)) I) := by
  have h60 := hB.2.2.1
  have hW := hB.2.1
  obtain ⟨g1, g2, g3, _⟩ := hB.2.2.2.2.2.2.2.2.2 i hi
  obtain ⟨l1, l2, l3⟩ := hld
  rw [F_X12_lay_L52, if_neg (by rw [hL, n_le] <;> omega)]
  rcases hk with hk | ⟨hk, ha⟩ | ⟨hk, hab, hb⟩ | ⟨hk, ha⟩
  · simp (disch := omega) only [n_bx, n_cl, lit32, hft.1, hft.2, l1, n_eq, nI_add, show ¬ k = 3 by omega, show ¬ k = 1 by omega, show ¬ k = 2 by omega, if_false]
    simp (disch := omega) only [lb, n_eq]
    have he : ed B k a b i = some (bA B i, bG B i) := by rw [hk]; simp [ed]
    obtain ⟨e1, e2⟩ := nx_some (w := w) he
    rw [e1, e2] 
    by_cases c : bA B i = w
    · rw [if_pos c, if_pos (by simp [c])]
      have := hn (by rw [e1]; simp [c])
      simp (disch := omega) only [n_bx, n_cl]
    · rw [if_neg c, if_neg (by simp [c])]
  · have l2 := l2 (by omega)
    subst hk
    simp (disch := omega) only [n_bx, n_cl, lit32, hft.1, hft.2, l1, l2, n_eq, nI_add, if_false, if_true, show ¬ (1 : Nat) = 3 by decide, show ¬ (1 : Nat) = 2 by decide]
    simp (disch := omega) only [lb, n_eq]
    by_cases c1 : bA B i = a
    · have he : ed B 1 a b i = none := by simp [ed, c1]
      rw [if_pos c1, nx_none he, if_neg (by simp)]
    · rw [if_neg c1]
      by_cases c2 : bG B i = a
      · have he : ed B 1 a b i = none := by simp [ed, c2]
        rw [if_pos c2, nx_none he, if_neg (by simp)]
      · have he : ed B 1 a b i = some (bA B i, bG B i) := by simp [ed, c1, c2]
        obtain ⟨e1, e2⟩ := nx_some (w := w) he
        rw [if_neg c2, e1, e2]
        by_cases c : bA B i = w
        · rw [if_pos c, if_pos (by simp [c])]
          have := hn (by rw [e1]; simp [c])
          simp (disch := omega) only [n_bx, n_cl]
        · rw [if_neg c, if_neg (by simp [c])]
  · have l2 := l2 (by omega)
    have l3 := l3 hk
    subst hk
    simp (disch := omega) only [n_cl, lit32, hft.1, hft.2, l1, l2, l3, n_eq, nI_add, if_false, if_true, show ¬ (2 : Nat) = 3 by decide, show ¬ (2 : Nat) = 1 by decide, n_bx (show i < 60 by omega)]
    simp (disch := omega) only [lb, n_eq, n_cl]
    have he : ed B 2 a b i = if (if bA B i = b then a else bA B i) = (if bG B i = b then a else bG B i) then none else some ((if bA B i = b then a else bA B i), (if bG B i = b then a else bG B i)) := by
      simp only [ed]; rfl
    have fin : ∀ x y, x < 10 → y < 10 → ed B 2 a b i = (if x = y then none else some (x, y)) → (if x = y then F_X12_lay_L52 (nI w) J kx K (nI n) (nI (i + 1)) I else if x = w then bx (nI n) 60 (bx (nI n) 60 (F_X12_lay_L52 (nI w) J kx K (nI (n + 1)) (nI (i + 1)) (ui (ui I m_list (nI n).toNatClampNeg (nI i)) m_goesTo (nI n).toNatClampNeg (nI y)))) else F_X12_lay_L52 (nI w) J kx K (nI n) (nI (i + 1)) I) = (if nxL (ed B 2 a b) (fun _ => true) w i = true then F_X12_lay_L52 (nI w) J kx K (nI (n + 1)) (nI (i + 1)) (ui (ui I m_list n (nI i)) m_goesTo n (nI (gtE (ed B 2 a b) i))) else F_X12_lay_L52 (nI w) J kx K (nI n) (nI (i + 1)) I) := by
      intro x y hx hy he
      by_cases c : x = y
      · rw [if_pos c]
        rw [if_pos c] at he
        rw [nx_none he, if_neg (by simp)]
      · rw [if_neg c]
        rw [if_neg c] at he
        obtain ⟨e1, e2⟩ := nx_some (w := w) he
        rw [e1, e2]
        by_cases d : x = w
        · rw [if_pos d, if_pos (by simp [d])]
          have := hn (by rw [e1]; simp [d])
          simp (disch := omega) only [n_bx, n_cl]
        · rw [if_neg d, if_neg (by simp [d])]
    by_cases c1 : bA B i = b <;> by_cases c2 : bG B i = b
    · omega
    · rw [if_pos c1, if_neg c2]
      exact fin a (bG B i) (by omega) (by omega) (by rw [he, if_pos c1, if_neg c2])
    · rw [if_neg c1, if_pos c2]
      exact fin (bA B i) a (by omega) (by omega) (by rw [he, if_neg c1, if_pos c2])
    · rw [if_neg c1, if_neg c2]
      exact fin (bA B i) (bG B i) (by omega) (by omega) (by rw [he, if_neg c1, if_neg c2])
  · have l2 := l2 (by omega)
    subst hk
    simp (disch := omega) only [n_bx, n_cl, lit32, hft.1, hft.2, l1, l2, n_eq, nI_add, if_false, if_true, show ¬ (3 : Nat) = 1 by decide, show ¬ (3 : Nat) = 2 by decide]
    simp (disch := omega) only [lb, n_eq, n_bx, n_cl]
    by_cases c1 : a = i
    · rw [if_pos c1]
      have he : ed B 3 a b i = some (bG B i, bA B i) := by simp [ed, c1]
      obtain ⟨e1, e2⟩ := nx_some (w := w) he
      rw [e1, e2]
      by_cases c : bG B i = w
      · rw [if_pos c, if_pos (by simp [c])]
        have := hn (by rw [e1]; simp [c])
        simp (disch := omega) only [n_bx, n_cl]
      · rw [if_neg c, if_neg (by simp [c])]
    · rw [if_neg c1]
      have c1' : ¬ i = a := fun h => c1 h.symm
      have he : ed B 3 a b i = some (bA B i, bG B i) := by simp [ed, c1']
      obtain ⟨e1, e2⟩ := nx_some (w := w) he
      rw [e1, e2]
      by_cases c : bA B i = w
      · rw [if_pos c, if_pos (by simp [c])]
        have := hn (by rw [e1]; simp [c])
        simp (disch := omega) only [n_bx, n_cl]
      · rw [if_neg c, if_neg (by simp [c])]

/-! LAYER 2: the reference's lay, begin, shine, glowing (2) -/
def catP (B : Bd) (e : Nat → Option (Nat × Nat)) (w i : Nat) : List Nat := cat B e w ++ (List.range i).filter (nxL e (fun _ => true) w)
theorem catP_0 (B : Bd) (e : Nat → Option (Nat × Nat)) (w : Nat) : catP B e w 0 = cat B e w := by unfold catP; simp
theorem catP_L (B : Bd) (e : Nat → Option (Nat × Nat)) (w : Nat) : catP B e w (bL B) = cat B e (w + 1) := by rw [cat_s]; rfl
theorem catP_s (B : Bd) (e : Nat → Option (Nat × Nat)) (w i : Nat) : catP B e w (i + 1) = if nxL e (fun _ => true) w i = true then catP B e w i ++ [i] else catP B e w i := by
  unfold catP
  rw [List.range_succ, List.filter_append]
  cases h : nxL e (fun _ => true) w i
  · simp [h]
  · simp [h]
theorem catP_le {B : Bd} (e : Nat → Option (Nat × Nat)) (w : Nat) {i : Nat} (h : i ≤ bL B) : (catP B e w i).length ≤ bL B := by
  have h1 := cat_le B e (w + 1)
  rw [← catP_L] at h1
  refine Nat.le_trans ?_ h1
  unfold catP
  rw [List.length_append, List.length_append]
  have := ((List.range_sublist.mpr h).filter (nxL e (fun _ => true) w)).length_le
  omega
def lsM (e : Nat → Option (Nat × Nat)) (C : List Nat) (I : HI) : Prop := ∀ j, j < C.length → I m_list j = nI (C.getD j 0) ∧ I m_goesTo j = nI (gtE e (C.getD j 0))
theorem lsM_app {e : Nat → Option (Nat × Nat)} {C : List Nat} {I : HI} {i : Nat} (h : lsM e C I) : lsM e (C ++ [i]) (ui (ui I m_list C.length (nI i)) m_goesTo C.length (nI (gtE e i))) := by
  intro j hj
  rw [List.length_append, List.length_singleton] at hj
  rw [ui_c (by decide), ui_s, ui_s, ui_c (by decide)]
  by_cases c : j = C.length
  · subst c; rw [if_pos rfl, if_pos rfl, getD_appL]; exact ⟨rfl, rfl⟩
  · rw [if_neg c, if_neg c, getD_app (by omega)]; exact h j (by omega)
theorem X12_lay_L {B : Bd} (hB : OkB B) {k a b : Nat} (hk : okK B k a b) (w : Nat) (hw : w < bW B) (J : HJ) (kx : Int32 → HI → Option (Unit × HI × HJ)) (Q : Unit × HI × HJ → Prop) (I0 : HI) (hM : MB B I0) (hld : ldM B k a b I0)
    (hx : ∀ I, Sm [(m_list, none), (m_goesTo, none)] I0 I → lsM (ed B k a b) (cat B (ed B k a b) (w + 1)) I → Ok (kx (nI (cat B (ed B k a b) (w + 1)).length) I) Q) :
    ∀ K i, i ≤ bL B → bL B - i < K → ∀ I, Sm [(m_list, none), (m_goesTo, none)] I0 I → lsM (ed B k a b) (catP B (ed B k a b) w i) I → Ok (F_X12_lay_L52 (nI w) J kx K (nI (catP B (ed B k a b) w i).length) (nI i) I) Q := by
  have h60 := hB.2.2.1
  refine up ?_ ?_
  · intro K I s1 h1
    rw [F_X12_lay_L52, if_pos (by rw [s1 _ _ rfl, hM.2.1, n_le] <;> omega)]
    rw [catP_L] at h1 ⊢
    exact hx I s1 h1
  · intro K i hi ih I s1 h1
    have hL : I m_self f_Model_lamps = nI (bL B) := by rw [s1 _ _ rfl]; exact hM.2.1
    have hld' : ldM B k a b I := ⟨by rw [s1 _ _ rfl]; exact hld.1, fun h => by rw [s1 _ _ rfl]; exact hld.2.1 h, fun h => by rw [s1 _ _ rfl]; exact hld.2.2 h⟩
    have hft : I m_lampFrom i = nI (bA B i) ∧ I m_lampTo i = nI (bG B i) := by
      rw [s1 _ _ rfl, s1 _ _ rfl]
      exact ⟨(hM.2.2.2.2.2.2 i hi).1, (hM.2.2.2.2.2.2 i hi).2.1⟩
    rw [X12_lay_st hB hk w _ i hw hi (fun hn => by
      have h2 := catP_le (ed B k a b) w (show i + 1 ≤ bL B by omega)
      rw [catP_s, if_pos hn, List.length_append, List.length_singleton] at h2
      omega) J kx K I hL hld' hft]
    rw [catP_s] at ih
    by_cases c : nxL (ed B k a b) (fun _ => true) w i = true
    · rw [if_pos c]
      rw [if_pos c, List.length_append, List.length_singleton] at ih
      exact ih _ (Sm.mi rfl (Sm.mi rfl s1)) (lsM_app h1)
    · rw [if_neg c]
      rw [if_neg c] at ih
      exact ih _ s1 h1
theorem X12_lay_W {B : Bd} (hB : OkB B) {k a b : Nat} (hk : okK B k a b) (J : HJ) (kx : Int32 → HI → Option (Unit × HI × HJ)) (Q : Unit × HI × HJ → Prop) (I0 : HI) (hM : MB B I0) (hld : ldM B k a b I0)
    (hx : ∀ I, Sm [(m_list, none), (m_goesTo, none), (m_listFrom, none)] I0 I → lsM (ed B k a b) (cat B (ed B k a b) (bW B)) I → (∀ w, w < bW B → I m_listFrom w = nI (cat B (ed B k a b) w).length) → Ok (kx (nI (cat B (ed B k a b) (bW B)).length) I) Q) :
    ∀ K w, w ≤ bW B → bW B - w < K → ∀ I, Sm [(m_list, none), (m_goesTo, none), (m_listFrom, none)] I0 I → lsM (ed B k a b) (cat B (ed B k a b) w) I → (∀ w', w' < w → I m_listFrom w' = nI (cat B (ed B k a b) w').length) → Ok (F_X12_lay_L34 J kx K (nI (cat B (ed B k a b) w).length) (nI w) I) Q := by
  have hW := hB.2.1
  have h60 := hB.2.2.1
  refine up ?_ ?_
  · intro K I s1 h1 h2
    rw [F_X12_lay_L34, if_pos (by rw [s1 _ _ rfl, hM.1, n_le] <;> omega)]
    exact hx I s1 h1 h2
  · intro K w hw ih I s1 h1 h2
    rw [F_X12_lay_L34, if_neg (by rw [s1 _ _ rfl, hM.1, n_le] <;> omega)]
    simp (disch := omega) only [n_bx, n_cl, lb]
    generalize hI : ui I m_listFrom w (nI (cat B (ed B k a b) w).length) = I1
    have sI : Sm [(m_list, none), (m_goesTo, none), (m_listFrom, none)] I0 I1 := by rw [← hI]; exact Sm.mi rfl s1
    have h1' : lsM (ed B k a b) (cat B (ed B k a b) w) I1 := fun j hj => by
      rw [← hI, ui_c (by decide), ui_c (by decide)]; exact h1 j hj
    have hM1 : MB B I1 := hM.keep (Ag.of sI (by decide))
    have hld1 : ldM B k a b I1 := ⟨by rw [sI _ _ rfl]; exact hld.1, fun h => by rw [sI _ _ rfl]; exact hld.2.1 h, fun h => by rw [sI _ _ rfl]; exact hld.2.2 h⟩
    have h2' : ∀ w', w' < w + 1 → I1 m_listFrom w' = nI (cat B (ed B k a b) w').length := fun w' hw' => by
      rw [← hI, ui_s]
      by_cases c : w' = w
      · subst c; rw [if_pos rfl]
      · rw [if_neg c]; exact h2 w' (by omega)
    have := X12_lay_L hB hk w hw J (fun (y41 : Int32) (I42 : HI) => F_X12_lay_L34 J kx K y41 (nI w + 1) I42) Q I1 hM1 hld1 (fun I2 t1 t2 => by
      rw [nI_1]
      exact ih I2 (Sm.tr rfl sI t1) t2 (fun w' hw' => by rw [t1 _ _ rfl]; exact h2' w' hw')) bgf 0 (by omega) (by unfold bgf; omega) I1 Sm.rf (by rw [catP_0]; exact h1')
    rw [catP_0] at this
    exact this
theorem cat_pre (B : Bd) (e : Nat → Option (Nat × Nat)) (w : Nat) : ∀ d, ∃ r, cat B e (w + 1 + d) = cat B e w ++ LFr B e w ++ r := by
  intro d
  induction d with
  | zero => exact ⟨[], by rw [Nat.add_zero, cat_s]; simp⟩
  | succ d ih =>
    obtain ⟨r, hr⟩ := ih
    exact ⟨r ++ LFr B e (w + 1 + d), by rw [← Nat.add_assoc, cat_s, hr, List.append_assoc]⟩
theorem cat_get {B : Bd} (e : Nat → Option (Nat × Nat)) {w i : Nat} (hw : w < bW B) (hi : i < (LFr B e w).length) : (cat B e w).length + i < (cat B e (bW B)).length ∧ (cat B e (bW B)).getD ((cat B e w).length + i) 0 = (LFr B e w).getD i 0 := by
  obtain ⟨r, hr⟩ := cat_pre B e w (bW B - w - 1)
  rw [show w + 1 + (bW B - w - 1) = bW B by omega] at hr
  rw [hr]
  constructor
  · simp only [List.length_append]; omega
  · simp only [List.getD, List.append_assoc]
    rw [List.getElem?_append_right (by omega), Nat.add_sub_cancel_left, List.getElem?_append_left hi]
def LD (B : Bd) (k a b : Nat) (I : HI) : Prop := ldM B k a b I ∧ MLs B (ed B k a b) I
theorem okK_f {B : Bd} (hB : OkB B) {f : Nat} (hf : f < nF B) : okK B (ftK (bW B) f) (ftA (bW B) f) (ftB (bW B) f) := by
  rcases fK_cases hB hf with ⟨hk, _⟩ | ⟨hk, ha, _⟩ | ⟨hk, hab, hb, _⟩ | ⟨hk, ha, _⟩
  · exact Or.inl hk
  · exact Or.inr (Or.inl ⟨hk, ha⟩)
  · exact Or.inr (Or.inr (Or.inl ⟨hk, hab, hb⟩))
  · exact Or.inr (Or.inr (Or.inr ⟨hk, ha⟩))
theorem X12_lay {B : Bd} (hB : OkB B) {f : Nat} (hf : f < nF B) (I : HI) (J : HJ) (hM : MB B I) : Ok (F_X12_lay (nI f) I J) (fun q => LD B (ftK (bW B) f) (ftA (bW B) f) (ftB (bW B) f) q.2.1) := by
  have hw := hB.2.1
  have h2 := hB.1
  have h60 := hB.2.2.1
  have h45 := nP_le hw
  have hf1 : f < 1000 := by unfold nF at hf; omega
  unfold F_X12_lay
  refine Ok.call ((X12_findFault hB hf I J hM.1).fo (fr_X12_findFault _ I J)) (fun r I1 J1 _ hP => ?_)
  obtain ⟨⟨q1, q2⟩, q3, q4⟩ := hP
  simp only at q1 q2 q3 q4
  have hM1 : MB B I1 := hM.keep (Ag.of q3 (by decide))
  rw [X12_kind h2 hw hf1 hM1.1]
  simp only [cp, Option.bind_some, lb, lit32]
  generalize hI : ui (ui (ui I1 m_self f_Model_laidKind _) m_self f_Model_laidA _) m_self f_Model_laidB _ = I2
  have s2 : Sm [(m_self, some f_Model_laidKind), (m_self, some f_Model_laidA), (m_self, some f_Model_laidB)] I1 I2 := by rw [← hI]; exact Sm.mi rfl (Sm.mi rfl (Sm.mi rfl Sm.rf))
  have hM2 : MB B I2 := hM1.keep (Ag.of s2 (by decide))
  have hk := okK_f hB hf
  have hld : ldM B (ftK (bW B) f) (ftA (bW B) f) (ftB (bW B) f) I2 := by
    refine ⟨?_, fun h => ?_, fun h => ?_⟩
    · rw [← hI, ui_j (by decide), ui_j (by decide), ui_r]
    · rw [← hI, ui_j (by decide), ui_r, ui_j (by decide), q1]
      unfold fAi
      rw [if_neg]
      intro h0; rw [h0] at h; exact h (by unfold ftK; rw [if_pos rfl])
    · rw [← hI, ui_r, ui_j (by decide), ui_j (by decide), q2]
      unfold fBi; rw [if_pos h]
  have hc0 : cat B (ed B (ftK (bW B) f) (ftA (bW B) f) (ftB (bW B) f)) 0 = [] := rfl
  have := X12_lay_W hB hk J1 (fun (y43 : Int32) (I44 : HI) => bx (I44 m_self f_Model_wide) 11 <| some ((), ui I44 m_listFrom (Int32.toNatClampNeg (I44 m_self f_Model_wide)) y43, J1)) (fun q => LD B (ftK (bW B) f) (ftA (bW B) f) (ftB (bW B) f) q.2.1) I2 hM2 hld (fun I3 t1 t2 t3 => by
    have e1 : I3 m_self f_Model_wide = nI (bW B) := by rw [t1 _ _ rfl]; exact hM2.1
    rw [e1]
    simp (disch := omega) only [n_bx, n_cl]
    generalize hI4 : ui I3 m_listFrom (bW B) (nI (cat B (ed B (ftK (bW B) f) (ftA (bW B) f) (ftB (bW B) f)) (bW B)).length) = I4
    have s4 : Sm [(m_listFrom, none)] I3 I4 := by rw [← hI4]; exact Sm.mi rfl Sm.rf
    refine Ok.mk ⟨⟨?_, fun h => ?_, fun h => ?_⟩, fun w hw' => ?_, fun w hw' i hi => ?_⟩ <;> dsimp only
    · rw [s4 _ _ rfl, t1 _ _ rfl]; exact hld.1
    · rw [s4 _ _ rfl, t1 _ _ rfl]; exact hld.2.1 h
    · rw [s4 _ _ rfl, t1 _ _ rfl]; exact hld.2.2 h
    · rw [← hI4, ui_s]
      by_cases c : w = bW B
      · rw [if_pos c, c]
      · rw [if_neg c]; exact t3 w (by omega)
    · obtain ⟨g1, g2⟩ := cat_get (ed B (ftK (bW B) f) (ftA (bW B) f) (ftB (bW B) f)) hw' hi
      rw [s4 _ _ rfl, s4 _ _ rfl, ← g2]
      exact t2 _ g1) bgf 0 (by omega) (by unfold bgf; omega) I2 Sm.rf (fun j hj => by rw [hc0] at hj; simp at hj) (fun w' h => by omega)
  rw [hc0] at this
  exact this

/-! LAYER 2: the reference's lists of lamps, and its paths -/
def LFr (B : Bd) (e : Nat → Option (Nat × Nat)) (w : Nat) : List Nat := (List.range (bL B)).filter (nxL e (fun _ => true) w)
def cat (B : Bd) (e : Nat → Option (Nat × Nat)) (w : Nat) : List Nat := (List.range w).flatMap (LFr B e)
def gtE (e : Nat → Option (Nat × Nat)) (l : Nat) : Nat := match e l with | none => 0 | some (_, v) => v
theorem cat_s (B : Bd) (e : Nat → Option (Nat × Nat)) (w : Nat) : cat B e (w + 1) = cat B e w ++ LFr B e w := by
  unfold cat; rw [List.range_succ, List.flatMap_append]; simp
theorem cP_add {α : Type} (l : List α) (p q r : α → Bool) (h : ∀ x, (if r x then 1 else 0) = (if p x then 1 else 0) + (if q x then 1 else 0)) : l.countP r = l.countP p + l.countP q := by
  induction l with
  | nil => rfl
  | cons a l ih =>
    rw [List.countP_cons, List.countP_cons, List.countP_cons, ih, h a]
    omega
def ltU (e : Nat → Option (Nat × Nat)) (w l : Nat) : Bool := match e l with | none => false | some (u, _) => decide (u < w)
theorem cat_len (B : Bd) (e : Nat → Option (Nat × Nat)) (w : Nat) : (cat B e w).length = (List.range (bL B)).countP (ltU e w) := by
  induction w with
  | zero =>
    have : (List.range (bL B)).countP (ltU e 0) = 0 := by
      rw [List.countP_eq_zero]
      intro l _
      unfold ltU
      cases e l with
      | none => simp
      | some uv => simp
    rw [this]; rfl
  | succ w ih =>
    rw [cat_s, List.length_append, ih]
    unfold LFr
    rw [← List.countP_eq_length_filter]
    refine (cP_add _ _ _ _ (fun l => ?_)).symm
    unfold ltU nxL
    cases e l with
    | none => simp
    | some uv =>
      obtain ⟨u, v⟩ := uv
      simp only [Bool.and_true, decide_eq_true_eq]
      by_cases c1 : u < w
      · rw [if_pos (by omega), if_pos c1, if_neg (by omega)]
      · by_cases c2 : u = w
        · rw [if_pos (by omega), if_neg c1, if_pos c2]
        · rw [if_neg (by omega), if_neg c1, if_neg c2]
theorem cat_le (B : Bd) (e : Nat → Option (Nat × Nat)) (w : Nat) : (cat B e w).length ≤ bL B := by
  rw [cat_len]
  have := List.countP_le_length (p := ltU e w) (l := List.range (bL B))
  rwa [List.length_range] at this
def MLs (B : Bd) (e : Nat → Option (Nat × Nat)) (I : HI) : Prop := (∀ w, w ≤ bW B → I m_listFrom w = nI (cat B e w).length) ∧ ∀ w, w < bW B → ∀ i, i < (LFr B e w).length → I m_list ((cat B e w).length + i) = nI ((LFr B e w).getD i 0) ∧ I m_goesTo ((cat B e w).length + i) = nI (gtE e ((LFr B e w).getD i 0))
/-- what the reference's walk reads -/
def CMo (B : Bd) (e : Nat → Option (Nat × Nat)) (hi lo : Nat → Bool) (o : Nat → Nat) (I : HI) : Prop :=
  I m_self f_Model_wide = nI (bW B) ∧ I m_sets 0 = nI (bS B) ∧ I m_sets 1 = nI (bD B) ∧ (∀ l, l < bL B → I m_volts l = nI (bV B l)) ∧
  (∀ w, w < bW B → ∀ J, F_X12_ohmsOf (nI w) I J = some (nI (o w))) ∧ MLs B e I ∧
  (∀ l u v, l < bL B → e l = some (u, v) → bi (I m_self f_Model_high) v = hi v ∧ bi (I m_self f_Model_low) v = lo v)
def rdCM : Pl := [(m_self, some f_Model_wide), (m_self, some f_Model_high), (m_self, some f_Model_low), (m_self, some f_Model_laidKind), (m_self, some f_Model_laidA), (m_self, some f_Model_ohmsTouch), (m_ohm, none), (m_sets, none), (m_volts, none), (m_listFrom, none), (m_list, none), (m_goesTo, none)]
theorem ohmsOf_k {I I' : HI} (a : Ag rdCM I I') (w : Nat) (J J' : HJ) : F_X12_ohmsOf (nI w) I' J' = F_X12_ohmsOf (nI w) I J := by
  unfold F_X12_ohmsOf
  rw [a m_self f_Model_laidKind rfl, a m_self f_Model_laidA rfl, a m_self f_Model_ohmsTouch rfl, a m_ohm _ rfl]
theorem CMo.keep {B : Bd} {e : Nat → Option (Nat × Nat)} {hi lo : Nat → Bool} {o : Nat → Nat} {I I' : HI} (h : CMo B e hi lo o I) (a : Ag rdCM I I') : CMo B e hi lo o I' := by
  obtain ⟨h1, h2, h3, h4, h5, h6, h7⟩ := h
  refine ⟨by rw [a _ _ rfl]; exact h1, by rw [a _ _ rfl]; exact h2, by rw [a _ _ rfl]; exact h3, fun l hl => by rw [a _ _ rfl]; exact h4 l hl, fun w hw J => by rw [ohmsOf_k a w J J]; exact h5 w hw J, ⟨fun w hw => by rw [a _ _ rfl]; exact h6.1 w hw, fun w hw i hi => ?_⟩, fun l u v hl he => ?_⟩
  · rw [a m_list _ rfl, a m_goesTo _ rfl]; exact h6.2 w hw i hi
  · rw [a m_self f_Model_high rfl, a m_self f_Model_low rfl]; exact h7 l u v hl he
/-- where the reference has been -/
def bnOk (hi lo : Nat → Bool) (w n : Nat) (been : Int32) : Prop := ∀ v, v < 32 → bi been v = true → hi v = true ∨ (lo v = false ∧ (v = w ∨ n = 2))
def gwQ (B : Bd) (e : Nat → Option (Nat × Nat)) (hi lo : Nat → Bool) (o : Nat → Nat) (ct : Bool) (wt : Option Nat) (ps : List Pa) (p : List Nat) (q : Unit × HI × HJ) : Prop := RM B ct wt ps q.2.1 q.2.2 ∧ wP p q.2.1 ∧ CMo B e hi lo o q.2.1
theorem LFr_mem {B : Bd} {e : Nat → Option (Nat × Nat)} {w l : Nat} (h : l ∈ LFr B e w) : l < bL B ∧ e l = some (w, gtE e l) := by
  unfold LFr at h
  rw [List.mem_filter, List.mem_range] at h
  refine ⟨h.1, ?_⟩
  have := h.2
  unfold nxL at this
  unfold gtE
  cases he : e l with
  | none => rw [he] at this; simp at this
  | some uv => obtain ⟨u, v⟩ := uv; rw [he] at this; simp at this; rw [this]
theorem wk_m {B : Bd} {e : Nat → Option (Nat × Nat)} {hi lo : Nat → Bool} (n w s : Nat) (p : List Nat) : wk B e hi lo (n + 1) w s p = (LFr B e w).flatMap (stW B e hi lo n w s p) := by
  rw [wk_s]
  unfold LFr
  rw [filter_fm]
  congr 1
  funext l
  unfold nxL stW
  cases e l with
  | none => simp
  | some uv =>
    obtain ⟨u, v⟩ := uv
    simp only [Bool.and_true]
    by_cases c : u = w
    · simp [c]
    · simp [c]
theorem RM_p {B : Bd} {ct : Bool} {wt : Option Nat} {ps : List Pa} {I I' : HI} {J : HJ} (h : RM B ct wt ps I J) (a : Sm [(m_path, none)] I I') : RM B ct wt ps I' J := by
  obtain ⟨r1, r2, r3, r4⟩ := h
  refine ⟨r1, by rw [a _ _ rfl]; exact r2, by rw [a _ _ rfl]; exact r3, fun hc => ?_⟩
  obtain ⟨t1, t2, t3⟩ := r4 hc
  refine ⟨fun k hk => by rw [a _ _ rfl]; exact t1 k hk, t2, fun b hb => ?_⟩
  obtain ⟨z1, z2⟩ := t3 b hb
  exact ⟨z1, fun h0 => ⟨by rw [a _ _ rfl]; exact (z2 h0).1, fun k hk => by rw [a _ _ rfl]; exact (z2 h0).2 k hk⟩⟩
theorem wP_u {p : List Nat} {l : Nat} {I : HI} (h : wP p I) : wP (p ++ [l]) (ui I m_path p.length (nI l)) := fun k hk => by
  rw [List.length_append, List.length_singleton] at hk
  rw [ui_s]
  by_cases c : k = p.length
  · subst c; rw [if_pos rfl, getD_appL]
  · rw [if_neg c, getD_app (by omega)]; exact h k (by omega)
theorem X12_goOn_L {B : Bd} (hB : OkB B) {e : Nat → Option (Nat × Nat)} {hi lo : Nat → Bool} {o : Nat → Nat} (hE : EO B e hi lo o) (ct : Bool) (wt : Option Nat) (hwo : wtOk wt) (s w n sm : Nat) (p : List Nat) (been : Int32) (hs : s < bW B) (hw : w < bW B) (hp3 : p.length + 1 + n = bD B) (hp6 : ∀ k, k ∈ p → k < bL B) (hsm : sm ≤ 20) (hbn : bnOk hi lo w p.length been) (hw0 : p.length = 0 → hi w = true) (ps0 : List Pa)
    (rc : Int32 → Int32 → Int32 → Int32 → Int32 → HI → HJ → Option (Unit × HI × HJ))
    (hrc : ∀ v sm' p' been' ps I J, v < bW B → p'.length = p.length + 1 → 0 < n → sm' ≤ 20 → (∀ k, k ∈ p' → k < bL B) → bnOk hi lo v p'.length been' → (∀ q, q ∈ ps → okP q) → CMo B e hi lo o I → RM B ct wt ps I J → wP p' I → Ok (rc (nI s) (nI v) (nI p'.length) (nI sm') been' I J) (gwQ B e hi lo o ct wt (ps ++ (wk B e hi lo n v sm' p').map (cy o s)) p')) :
    ∀ K i, i ≤ (LFr B e w).length → (LFr B e w).length - i < K → ∀ I J, CMo B e hi lo o I → RM B ct wt (ps0 ++ ((((LFr B e w).take i).flatMap (stW B e hi lo n w sm p)).map (cy o s))) I J → wP p I → (∀ q, q ∈ ps0 → okP q) →
      Ok (F_X12_goOn_L8 rc (nI s) (nI w) (nI p.length) (nI sm) been K (nI ((cat B e w).length + i)) I J) (gwQ B e hi lo o ct wt (ps0 ++ ((LFr B e w).flatMap (stW B e hi lo n w sm p)).map (cy o s)) p) := by
  have hL := hB.2.2.1
  have hS := hB.2.2.2.2.1
  have hW := hB.2.1
  have hD := hB.2.2.2.2.2.2.1
  have hcw : (cat B e w).length + (LFr B e w).length ≤ 60 := by
    have := cat_le B e (w + 1)
    rw [cat_s, List.length_append] at this
    omega
  refine up ?_ ?_
  · intro K I J hC hR hP _
    rw [F_X12_goOn_L8]
    have e1 := hC.2.2.2.2.2.1.1 (w + 1) (by omega)
    rw [cat_s, List.length_append] at e1
    simp (disch := omega) only [lit32, nI_1, nI_add, n_bx, n_cl, e1]
    rw [if_pos (by rw [n_le] <;> omega)]
    rw [List.take_length] at hR
    exact Ok.mk ⟨hR, hP, hC⟩
  · intro K i hi' ih I J hC hR hP hok0
    have e1 := hC.2.2.2.2.2.1.1 (w + 1) (by omega)
    rw [cat_s, List.length_append] at e1
    obtain ⟨e2, e3⟩ := hC.2.2.2.2.2.1.2 w hw i hi'
    have hmem := getD_mem hi'
    obtain ⟨hl, hel⟩ := LFr_mem hmem
    have htk := take_s (LFr B e w) hi'
    generalize (LFr B e w).getD i 0 = l at *
    generalize hv0 : gtE e l = v at *
    obtain ⟨_, hv, hwv⟩ := hE.1 l w v hl hel
    have hvl := hC.2.2.2.1 l hl
    have hV := (hB.2.2.2.2.2.2.2.2.2 l hl).2.2.2
    obtain ⟨hh, hlw⟩ := hC.2.2.2.2.2.2 l w v hl hel
    have hs0 := hC.2.1
    have hs1 := hC.2.2.1
    rw [F_X12_goOn_L8]
    simp (disch := omega) only [lit32, nI_1, n_bx, n_cl, e1, e2, e3, hvl, nI_add, lb, t_hasI, cp, Option.bind_some, hs0]
    rw [if_neg (by rw [n_le] <;> omega)]
    have hst : stW B e hi lo n w sm p l = if hi v = false ∧ sm + bV B l < bS B then (if lo v = true then [(p ++ [l], v, bS B - (sm + bV B l))] else wk B e hi lo n v (sm + bV B l) (p ++ [l])) else [] := by
      unfold stW; rw [hel]; simp only [true_and]
    rw [htk, List.flatMap_append, List.map_append, ← List.append_assoc] at ih
    simp only [List.flatMap_cons, List.flatMap_nil, List.append_nil] at ih
    simp only [if10, bi_or, hh]
    have eadd : (cat B e w).length + i + 1 = (cat B e w).length + (i + 1) := by omega
    rw [eadd]
    have hp6' : ∀ k, k ∈ p ++ [l] → k < bL B := fun k hk => by
      rw [List.mem_append] at hk
      rcases hk with hk | hk
      · exact hp6 k hk
      · simp at hk; omega
    have hlen' : (p ++ [l]).length = p.length + 1 := by simp
    have hok : ∀ q, q ∈ ps0 ++ ((((LFr B e w).take i).flatMap (stW B e hi lo n w sm p)).map (cy o s)) → okP q := by
      intro q hq
      rw [List.mem_append] at hq
      rcases hq with hq | hq
      · exact hok0 q hq
      · refine cy_ok hB hE (n := n + 1) (w := w) (s := sm) (p := p) hs (by omega) (fun k hk => by have := hp6 k hk; omega) q ?_
        rw [wk_m]
        obtain ⟨r, hr, rfl⟩ := List.mem_map.mp hq
        refine List.mem_map_of_mem ?_
        rw [List.mem_flatMap] at hr ⊢
        obtain ⟨y, hy, hr⟩ := hr
        exact ⟨y, List.mem_of_mem_take hy, hr⟩
    cases hhv : hi v with
    | true =>
      rw [hhv] at hst
      simp only [Bool.true_eq_false, false_and, if_false] at hst
      rw [if_neg (by simp)]
      rw [hst] at ih
      exact ih I J hC (by simpa using hR) hP hok0
    | false =>
      rw [hhv] at hst
      simp only [true_and] at hst
      rw [Bool.or_false]
      cases hbv : bi been v with
      | true =>
        rw [if_neg (by simp)]
        have hn0 : stW B e hi lo n w sm p l = [] := by
          rcases hbn v (by omega) hbv with h | ⟨h1, h2 | h2⟩
          · rw [hhv] at h; cases h
          · omega
          · have : n = 0 := by omega
            subst this
            rw [hst, h1]
            simp [wk]
        rw [hn0] at ih
        exact ih I J hC (by simpa using hR) hP hok0
      | false =>
        rw [if_pos rfl]
        simp (disch := omega) only [n_lt]
        by_cases c1 : sm + bV B l < bS B
        · rw [if_pos c1]
          rw [if_pos c1] at hst
          have aI : Sm [(m_path, none)] I (ui I m_path p.length (nI l)) := Sm.mi rfl Sm.rf
          have hC1 : CMo B e hi lo o (ui I m_path p.length (nI l)) := hC.keep (Ag.of aI (by decide))
          have hR1 := RM_p hR aI
          have hP1 : wP (p ++ [l]) (ui I m_path p.length (nI l)) := wP_u hP
          have hPk : wP p (ui I m_path p.length (nI l)) := fun k hk => by rw [hP1 k (by rw [hlen']; omega), getD_app hk]
          have el : ui I m_path p.length (nI l) m_self f_Model_low = I m_self f_Model_low := aI _ _ rfl
          simp only [el, if10, hlw]
          have es1 : ui I m_path p.length (nI l) m_sets 1 = nI (bD B) := hC1.2.2.1
          have es0 : ui I m_path p.length (nI l) m_sets 0 = nI (bS B) := hC1.2.1
          cases hlv : lo v with
          | false =>
            rw [if_pos rfl]
            rw [hlv] at hst
            simp only [Bool.false_eq_true, if_false] at hst
            simp (disch := omega) only [es1, n_le]
            by_cases c2 : bD B ≤ p.length + 1
            · rw [if_pos c2]
              have : n = 0 := by omega
              subst this
              rw [hst] at ih
              exact ih _ J hC1 (by simpa [wk] using hR1) hPk hok0
            · rw [if_neg c2]
              have hbn' : bnOk hi lo v (p ++ [l]).length (been ||| oshl (nI 1) (nI v)) := by
                intro v' hv' hb'
                rw [bi_or, t_ione (by omega)] at hb'
                by_cases cv : v' = v
                · subst cv; exact Or.inr ⟨hlv, Or.inl rfl⟩
                · simp only [cv, decide_false, Bool.or_false] at hb'
                  rcases hbn v' hv' hb' with h | ⟨h1, h2 | h2⟩
                  · exact Or.inl h
                  · by_cases ch : hi v' = true
                    · exact Or.inl ch
                    · refine Or.inr ⟨h1, Or.inr ?_⟩
                      rw [hlen']
                      have : p.length ≠ 0 := fun h => ch (by rw [h2]; exact hw0 h)
                      omega
                  · exact Or.inr ⟨h1, Or.inr (by omega)⟩
              have := hrc v (sm + bV B l) (p ++ [l]) (been ||| oshl (nI 1) (nI v)) _ _ J hv hlen' (by omega) (by omega) hp6' hbn' hok hC1 hR1 hP1
              rw [hlen'] at this
              refine Ok.call this (fun r I2 J2 _ hQ => ?_)
              obtain ⟨q1, q2, q3⟩ := hQ
              simp only at q1 q2 q3
              rw [hst] at ih
              exact ih I2 J2 q3 q1 (fun k hk => by rw [q2 k (by rw [hlen']; omega), getD_app hk]) hok0
          | true =>
            rw [if_neg (by simp)]
            rw [hlv] at hst
            simp only [if_true] at hst
            rw [es0, n_sub (by omega)]
            have := (X12_arrive hB ct wt _ s v (o s) (o v) (bS B - (sm + bV B l)) (p ++ [l]) _ J hs hv (hC1.2.2.2.2.1 s hs J) (hC1.2.2.2.2.1 v hv J) (hE.2.2 s hs) (hE.2.2 v hv) (by rw [hlen']; omega) (by rw [hlen']; omega) hp6' (by omega) (by omega) hP1 hwo hok hR1).fo (fr_X12_arrive _ _ _ _ _ _)
            rw [hlen'] at this
            refine Ok.call this (fun r I2 J2 _ hQ => ?_)
            obtain ⟨q1, q4, q5⟩ := hQ
            simp only at q1 q4 q5
            rw [hst] at ih
            refine ih I2 J2 (hC1.keep (Ag.of q4 (by decide))) ?_ (fun k hk => by rw [q4 _ _ rfl]; exact hPk k hk) hok0
            simpa [cy] using q1
        · rw [if_neg c1]
          rw [if_neg c1] at hst
          rw [hst] at ih
          exact ih I J hC (by simpa using hR) hP hok0

/-! LAYER 2: changes, the call -/
theorem X4_putInOrder {L : List Nat} {w : Nat} (hL : L.length ≤ 6) (hw : w ≤ 7) (hl : ∀ e, e ∈ L → e < 3 ^ w) (I : HI) (J : HJ) (hn : tnX L I) (htw : twX w I) : Ok (F_X4_putInOrder I J) (fun q => q.1 = nI (orS L w).1 ∧ q.2.2 = J ∧ ∀ k, k < (orL L w).length → q.2.1 x_parting_order k = nI ((orL L w).getD k 0)) := by
  have h3 : 0 < 3 ^ w := Nat.pow_pos (by omega)
  have hlt := orS_lt hL hw
  unfold F_X4_putInOrder
  refine Ok.lbv ?_
  refine Ok.call (X4_tryOrder hL hw hl L.length 20 (nI 0) 0 0 [] (43, []) (ui I x_parting f_Parting_fewestChanges (43 : Int32)) J (by omega) (by simp) h3 (by omega) (fun k hk => by cases hk) ⟨by rw [ui_r]; rfl, by dsimp only; omega, fun h => absurd h (by decide)⟩ ⟨by rw [ui_j (by decide)]; exact hn.1, fun k hk => by rw [ui_c (by decide)]; exact hn.2 k hk⟩ (fun s hs => by rw [ui_c (by decide), ui_c (by decide)]; exact htw s hs)) (fun r I3 J3 _ hP => ?_)
  obtain ⟨p1, _, p3, _⟩ := hP
  simp only at p1 p3
  have p3' : oX L.length (orS L w) I3 := p3
  refine Ok.mk ⟨p3'.1, p1, fun k hk => ?_⟩
  rw [orL_len] at hk
  rw [orL_at hk]
  exact p3'.2.2 (by omega) k hk
theorem X12_orders {L : List Nat} {w : Nat} (hL : L.length ≤ 6) (hw : w ≤ 7) (hl : ∀ e, e ∈ L → e < 3 ^ w) (I : HI) (J : HJ) (hwd : I m_self f_Model_wide = nI w) (hn : tnM L I) : Ok (F_X12_goOrders 20 (0 : Int32) (0 : Int32) (0 : Int32) (0 : Int32) (ui I m_self f_Model_leastChanges (-1 : Int32)) J) (fun q => q.2.2 = J ∧ Sm omW I q.2.1 ∧ q.2.1 m_self f_Model_leastChanges = nI (orS L w).1 ∧ ∀ k, k < (orL L w).length → q.2.1 m_bestOrder k = nI ((orL L w).getD k 0)) := by
  have h3 : 0 < 3 ^ w := Nat.pow_pos (by omega)
  have hlt := orS_lt hL hw
  refine (X12_goOrders hL hw hl L.length 20 (nI 0) 0 0 [] (43, []) (ui I m_self f_Model_leastChanges (-1 : Int32)) J (by omega) (by simp) h3 (by omega) (by rw [ui_j (by decide)]; exact hwd) (fun k hk => by cases hk) (Or.inr ⟨rfl, by rw [ui_r]⟩) ⟨by rw [ui_j (by decide)]; exact hn.1, fun k hk => by rw [ui_c (by decide)]; exact hn.2 k hk⟩).mono (fun q hq => ?_)
  obtain ⟨p1, p2, p3, _⟩ := hq
  have p3' : oM L.length (orS L w) q.2.1 := p3
  rcases p3' with ⟨o1, o2, o3⟩ | ⟨o1, _⟩
  · refine ⟨p1, Sm.tr (by decide) (Sm.mi rfl Sm.rf) p2, o2, fun k hk => ?_⟩
    rw [orL_len] at hk
    rw [orL_at hk]; exact o3 k hk
  · omega
theorem tellO {L : List Nat} (hL : L.length ≤ 6) (I : HI) (J : HJ) (h0 : I m_self f_Model_turns = nI L.length) (h : ∀ k, k < L.length → I m_bestOrder k = nI (L.getD k 0)) {kx : HI → HJ → Option (Int32 × HI × HJ)} {Q : Int32 × HI × HJ → Prop} (hx : ∀ I' J', tM (L.map tI) I' J' → Sm [(m_self, some f_Model_rowMany)] I I' → Sm [(m_row, none)] J J' → Ok (kx I' J') Q) : Ok (F_X12_changes_L65 kx bgf (0 : Int32) (ui I m_self f_Model_rowMany 0) J) Q := by
  have lp : ∀ (R P : List Nat) (K : Nat), L = P ++ R → R.length < K → ∀ I' J', Sm [(m_self, some f_Model_rowMany)] I I' → Sm [(m_row, none)] J J' → tM (P.map tI) I' J' → Ok (F_X12_changes_L65 kx K (nI P.length) I' J') Q := by
    intro R
    induction R with
    | nil =>
      intro P K hP hK I' J' s1 s2 s3
      obtain ⟨K, rfl⟩ : ∃ K', K = K' + 1 := ⟨K - 1, by simp at hK; omega⟩
      rw [List.append_nil] at hP
      rw [← hP] at s3 ⊢
      rw [F_X12_changes_L65]
      exact Ok.t (by rw [s1 _ _ rfl, h0, n_le] <;> omega) (hx I' J' s3 s1 s2)
    | cons w R ih =>
      intro P K hP hK I' J' s1 s2 s3
      obtain ⟨K, rfl⟩ : ∃ K', K = K' + 1 := ⟨K - 1, by simp at hK; omega⟩
      have hlen : P.length < L.length := by rw [hP]; simp
      rw [F_X12_changes_L65]
      refine Ok.f (by rw [s1 _ _ rfl, h0, n_le] <;> omega) (Ok.bxe (by omega) (by omega) ?_)
      have hw : L.getD P.length 0 = w := by rw [hP, nat_getD_at]
      rw [n_cl (by omega), s1 m_bestOrder _ rfl, h _ hlen, hw, nI_1]
      refine tel1 s3 (by simp; omega) (fun I2 J2 d1 d2 d3 => ?_)
      have := ih (P ++ [w]) K (by rw [hP]; simp) (by simp at hK; omega) I2 J2 (Sm.tr (by decide) s1 d2) (Sm.tr (by decide) s2 d3) (by rw [List.map_append]; exact d1)
      rw [List.length_append, List.length_singleton] at this
      exact this
  exact lp L [] bgf rfl (by unfold bgf; omega) _ J (Sm.mi rfl Sm.rf) Sm.rf ⟨by rw [ui_r]; rfl, fun k h => by cases h⟩
theorem i_neg {r : Int32} (h : r < 0) : ¬ (0 : Int32) ≤ r := fun c => by
  rw [i_le] at c; rw [i_lt] at h; exact absurd (Int.lt_of_lt_of_le h c) (Int.lt_irrefl _)
theorem OP27 (n : Nat) (b : Bool) (I : HI) (J : HJ) (a1 a2 a3 a4 : Int32) (h : Iv (n + 1) b I J) : Op27 (Iv n) b I J a1 a2 a3 a4 := by
  obtain ⟨B, nb, h⟩ := h
  have hB := h.1
  have hX := h.2.1
  have hM0 := h.2.2.1
  have hTF := h.2.2.2.2.2.2.2.2.2
  have no : ∀ r : Int32, r < 0 → F_X11_openParting a1 I J = some (r, I, J) → F_X12_refusal a1 (ui I m_self f_Model_thrown 0) J = some r → Op27 (Iv n) b I J a1 a2 a3 a4 := by
    intro r r0 e1 e2
    refine ⟨r, I, J, ui I m_self f_Model_thrown 0, J, ?_, ?_, IV_th h (th_s I 0) Sm.rf⟩
    · unfold F_X11_changes
      rw [pI_no e1 (fun e => by rw [e] at r0; exact absurd r0 (by decide))]
      show (if 0 ≤ r then _ else _) = _
      rw [if_neg (i_neg r0)]
    · unfold F_X12_changes
      refine (lb_e _ _).trans ?_
      rw [e2]
      show (if 0 ≤ r then _ else _) = _
      rw [if_neg (i_neg r0)]
  have hM0' : MB B (ui I m_self f_Model_thrown 0) := hM0.keep (Ag.of (th_s I 0) (by decide))
  rcases i_case a1 4 (by omega) with ⟨i, hi, rfl⟩ | ⟨hn, _⟩
  · obtain ⟨hpm, hpk⟩ := h.2.2.2.2.1.2.2.2.1 i hi
    by_cases hW : bW B ≤ 7
    · by_cases hp12 : pc (J x_notes_pictures i) ≤ 12
      · have hC := lsP_12 hp12
        obtain ⟨p, hpe⟩ : ∃ p, p = J x_notes_pictures i := ⟨_, rfl⟩
        rw [← hpe] at hC
        obtain ⟨L, hLe⟩ : ∃ L, L = prL B p := ⟨_, rfl⟩
        have hll : ∀ e, e ∈ L → e < 3 ^ bW B := by rw [hLe]; exact prL_lt
        refine srch h (fr_X11_changes (nI i) I J) (fun I1 J1 => fr_X12_changes (nI i) I1 J1) (by decide) (if prT B p < 99 then (if prT B p ≤ 6 then nI (orS L (bW B)).1 else -5) else -2) (if prT B p < 99 ∧ prT B p ≤ 6 then some ((orL L (bW B)).map tI) else none) ?_ ?_
        · unfold F_X11_changes
          refine Ok.call ((pI_ok hB hW hi I J hX hTF.1 hTF.2.1 hp12).fo (fr_X11_partInto _ I J)) (fun r I2 J2 _ hP => ?_)
          obtain ⟨⟨q1, q2, q3, q4⟩, t1, t2⟩ := hP
          simp only at q1 q2 q3 q4 t1 t2
          rw [← hpe] at q4
          rcases q4 with ⟨g1, g2, g3⟩ | ⟨g1, g2⟩
          · have hT := prT_12 hC g1
            have hLl := prL_len g1
            rw [← hLe] at g3 hLl
            rw [if_pos g1, g2]
            refine Ok.t (show nI 0 ≤ nI (prT B p) by rw [n_le] <;> omega) ?_
            by_cases g6 : prT B p ≤ 6
            · rw [if_pos g6, if_pos (show prT B p < 99 ∧ prT B p ≤ 6 from ⟨g1, g6⟩)]
              refine Ok.t (show nI (prT B p) ≤ (6 : Int32) from (by rw [n_le (by omega) (by omega)]; exact g6 : nI (prT B p) ≤ nI 6)) ?_
              refine Ok.call ((X4_putInOrder (w := bW B) (by omega) hW hll I2 J2 g3 q2.1.2.2.2).fo (fr_X4_putInOrder I2 J2)) (fun r I3 J3 _ hP => ?_)
              obtain ⟨⟨w1, w2, w3⟩, u1, u2⟩ := hP
              simp only at w1 w2 w3 u1 u2
              subst w1 w2
              have q2' : rfQ B I3 J3 := q2.keep (Ag.of u1 (by decide)) (fun _ _ _ => rfl) (Ag.of u1 (by decide)) (fun _ _ _ => rfl)
              have hol := orL_len L (bW B)
              rw [show prT B p = (orL L (bW B)).length by omega]
              refine Ok.call (tellX41 (by omega) I3 J3 w3) (fun r I4 J4 _ hP => ?_)
              obtain ⟨v1, v2, v3⟩ := hP
              simp only at v1 v2 v3
              exact Ok.mk ⟨rfl, (q2'.k1 v2 v3).tab, (q2'.k1 v2 v3).2.2, v1⟩
            · rw [if_neg g6, if_neg (show ¬ (prT B p < 99 ∧ prT B p ≤ 6) from fun hh => g6 hh.2)]
              exact Ok.f (show ¬ nI (prT B p) ≤ (6 : Int32) from (by rw [n_le (by omega) (by omega)]; exact g6 : ¬ nI (prT B p) ≤ nI 6)) (Ok.mk ⟨rfl, q2.tab, q2.2.2, toX_o t1 t2 (by decide) (by decide)⟩)
          · rw [if_neg g1, if_neg (show ¬ (prT B p < 99 ∧ prT B p ≤ 6) from fun hh => g1 hh.1), g2]
            exact Ok.f (by decide) (Ok.mk ⟨rfl, q2.tab, q2.2.2, toX_o t1 t2 (by decide) (by decide)⟩)
        · intro I1 J1 hM hMo u1 u2
          have sT := th_s I1 0
          have hM2 : MB B (ui I1 m_self f_Model_thrown 0) := hM.keep (Ag.of sT (by decide))
          have hpe' : J1 m_pictures i = p := by rw [u2 _ _ rfl, hpm, hpe]
          unfold F_X12_changes
          refine Ok.lbv (Ok.cpe (ref_4 hB hW hi _ J1 hM2) ?_)
          rw [hpe', if_pos (show pc p ≤ 12 by rw [hpe]; exact hp12)]
          refine Ok.t (by decide) (Ok.bxe (by omega) (by omega) ?_)
          rw [n_cl (by omega), hpe']
          refine Ok.call ((X12_findParted hB hW (by rw [hpe]; exact hpk) (by rw [hpe]; exact hp12) _ J1 hM2 (hMo.keep (Ag.of sT (by decide)))).fo (fr_X12_findParted _ _ _)) (fun r I2 J2 _ hP => ?_)
          obtain ⟨⟨q1, q2, q3, _, q4⟩, t1, t2⟩ := hP
          simp only at q1 q2 q3 q4 t1 t2
          rcases q4 with ⟨g1, g2, g3⟩ | ⟨g1, g2⟩
          · have hT := prT_12 hC g1
            have hLl := prL_len g1
            rw [← hLe] at g3 hLl
            rw [if_pos g1, g2]
            refine Ok.f (by decide) ?_
            rw [g3.1]
            by_cases g6 : prT B p ≤ 6
            · rw [if_pos g6, if_pos (show prT B p < 99 ∧ prT B p ≤ 6 from ⟨g1, g6⟩)]
              refine Ok.t (show nI L.length ≤ (6 : Int32) from (by rw [n_le (by omega) (by omega)]; omega : nI L.length ≤ nI 6)) (Ok.lbv ?_)
              refine Ok.call (X12_orders (w := bW B) (by omega) hW hll I2 J2 q1.1 g3) (fun r I3 J3 _ hP => ?_)
              obtain ⟨w1, w2, w3, w4⟩ := hP
              simp only at w1 w2 w3 w4
              subst w1
              have hol := orL_len L (bW B)
              refine Ok.lbv (tellO (L := orL L (bW B)) (by omega) I3 J3 (by rw [w2 _ _ rfl, g3.1, hol]) w4 (fun I4 J4 v1 v2 v3 => ?_))
              exact Ok.mk ⟨by dsimp only; rw [v2 _ _ rfl, w3], (q2.keep (Ag.of w2 (by decide))).k1 v2, v1⟩
            · rw [if_neg g6, if_neg (show ¬ (prT B p < 99 ∧ prT B p ≤ 6) from fun hh => g6 hh.2)]
              exact Ok.f (show ¬ nI L.length ≤ (6 : Int32) from (by rw [n_le (by omega) (by omega)]; omega : ¬ nI L.length ≤ nI 6)) (Ok.mk ⟨rfl, q2, toM_2 sT t1 t2 (by decide) (by decide) (by decide)⟩)
          · rw [if_neg g1, if_neg (show ¬ (prT B p < 99 ∧ prT B p ≤ 6) from fun hh => g1 hh.1), g2]
            exact Ok.t rfl (Ok.mk ⟨rfl, q2, toM_2 sT t1 t2 (by decide) (by decide) (by decide)⟩)
      · refine no (-4) (by decide) (openP_4 hB hW hi I J hX hp12) ?_
        rw [ref_4 hB hW hi _ J hM0', hpm, if_neg hp12]
    · exact no (-3) (by decide) (openP_3 hB hW hi I J hX) (ref_3 hB hW hi _ J hM0')
  · exact no (-1) (by decide) (openP_1 hn I J) (ref_1 hn _ J)

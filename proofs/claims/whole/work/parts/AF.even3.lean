/-! LAYER 2: even, the call -/
theorem pr_CL {B : Bd} {p : Int64} (hC : (lsP p 60).length ≤ 12) (h : prT B p < 99) : ((lsP p 60).length = 0 → (prL B p).length = 0) ∧ (0 < (lsP p 60).length → 0 < (prL B p).length) := by
  have hlen := prL_len h
  have h12 : (2 : Nat) ^ (lsP p 60).length ≤ 2 ^ 12 := Nat.pow_le_pow_right (by omega) hC
  constructor
  · intro h0
    have := prT_12 hC h
    omega
  · intro h0
    rw [hlen]
    have h2 : 2 ^ 1 ≤ (2 : Nat) ^ (lsP p 60).length := Nat.pow_le_pow_right (by omega) h0
    by_cases c : prT B p = 0
    · have : nI (2 ^ (lsP p 60).length - 1) = nI 0 := lsV_z c
      rw [n_eq (by omega) (by omega)] at this
      omega
    · omega
def slL (B : Bd) (L C : List Nat) (n : Nat) : List Nat := (List.range L.length).map (slR B L C n)
theorem slL_len (B : Bd) (L C : List Nat) (n : Nat) : (slL B L C n).length = L.length := by unfold slL; simp
theorem slL_at {B : Bd} {L C : List Nat} {n k : Nat} (h : k < L.length) : (slL B L C n).getD k 0 = slR B L C n k := by
  unfold slL
  rw [List.getD_eq_getElem?_getD, List.getElem?_map, List.getElem?_range h]; rfl
theorem lsP_b {p : Int64} {L k : Nat} (hok : okLp L p) (h : k < (lsP p 60).length) : (lsP p 60).getD k 0 < L := by
  have hm := nat_getD_m h
  unfold lsP at hm
  have hb := (List.mem_filter.mp hm).2
  by_cases c : (lsP p 60).getD k 0 < L
  · exact c
  · have := hok ((lsP p 60).getD k 0) (by omega)
    have hb' : bt p ((lsP p 60).getD k 0) = true := hb
    rw [this] at hb'; cases hb'
theorem OP28 (n : Nat) (b : Bool) (I : HI) (J : HJ) (a1 a2 a3 a4 : Int32) (h : Iv (n + 1) b I J) : Op28 (Iv n) b I J a1 a2 a3 a4 := by
  obtain ⟨B, nb, h⟩ := h
  have hB := h.1
  have hX := h.2.1
  have hM0 := h.2.2.1
  have hTF := h.2.2.2.2.2.2.2.2.2
  have hM0' : MB B (ui I m_self f_Model_thrown 0) := hM0.keep (Ag.of (th_s I 0) (by decide))
  rcases i_case a1 4 (by omega) with ⟨i, hi, rfl⟩ | ⟨hn, _⟩
  · obtain ⟨hpm, hpk⟩ := h.2.2.2.2.1.2.2.2.1 i hi
    have hnr : ∃ r, F_X12_refusal (nI i) (ui I m_self f_Model_thrown 0) J = some r ∧ ¬ r = -1 := by
      by_cases hW : bW B ≤ 7
      · refine ⟨_, ref_4 hB hW hi _ J hM0', ?_⟩
        split <;> decide
      · exact ⟨_, ref_3 hB hW hi _ J hM0', by decide⟩
    by_cases ca : 1 ≤ a2.toInt ∧ a2.toInt ≤ 200
    · obtain ⟨a, e1, e2, e3⟩ := i_of (x := a2) (by omega)
      have e1' : a2 = nI a := e1
      subst e1'
      have ha1 : 1 ≤ a ∧ a ≤ 200 := by rw [← e2] at ca; omega
      have hx1 : ¬ nI a < (1 : Int32) := (by rw [n_lt (by omega) (by omega)]; omega : ¬ nI a < nI 1)
      have hx2 : nI a ≤ (200 : Int32) := (by rw [n_le (by omega) (by omega)]; omega : nI a ≤ nI 200)
      have hin : F_X12_in (Int32.toInt64 (nI a)) (1 : Int64) (200 : Int64) = some (nI 1) := by
        show F_X12_in (Int32.toInt64 (nI a)) (lN 1) (lN 200) = _
        rw [in_spec, l_i, n_int (by omega), L_int (by omega), L_int (by omega), if_pos (by omega)]; rfl
      have no : ∀ r : Int32, r < 0 → ¬ r = -1 → F_X11_openParting (nI i) I J = some (r, I, J) → F_X12_refusal (nI i) (ui I m_self f_Model_thrown 0) J = some r → Op28 (Iv n) b I J (nI i) (nI a) a3 a4 := by
        intro r r0 r1 e1 e2
        refine ⟨Int32.toInt64 r, I, J, ui I m_self f_Model_thrown 0, J, ?_, ?_, IV_th h (th_s I 0) Sm.rf⟩
        · unfold F_X11_even
          refine (cp1 (X11_isPic.1 ⟨i, hi, rfl⟩)).trans ?_
          rw [if_neg hx1, if_pos hx2, pI_no e1 (fun e => by rw [e] at r0; exact absurd r0 (by decide))]
          show (if 0 ≤ r then _ else _) = _
          rw [if_neg (i_neg r0)]
        · unfold F_X12_even
          refine (lb_e _ _).trans ?_
          rw [e2]
          show (if r = -1 then _ else _) = _
          rw [if_neg r1]
          refine (cp1 hin).trans ?_
          rw [if_neg (i_neg r0)]
      by_cases hW : bW B ≤ 7
      · by_cases hp12 : pc (J x_notes_pictures i) ≤ 12
        · have hC := lsP_12 hp12
          obtain ⟨p, hpe⟩ : ∃ p, p = J x_notes_pictures i := ⟨_, rfl⟩
          rw [← hpe] at hC
          obtain ⟨L, hLe⟩ : ∃ L, L = prL B p := ⟨_, rfl⟩
          have hll : ∀ e, e ∈ L → e < 3 ^ bW B := by rw [hLe]; exact prL_lt
          have h60 : ∀ k, k < (lsP p 60).length → (lsP p 60).getD k 0 < 60 := fun k hk => lsP_lt hk
          refine srch h (fr_X11_even (nI i) (nI a) I J) (fun I1 J1 => fr_X12_even (nI i) (nI a) I1 J1) (by decide) (if prT B p < 99 ∧ prT B p ≤ a then evS B L (lsP p 60) (a - L.length) else -2) (if prT B p < 99 ∧ prT B p ≤ a then some ((slL B L (lsP p 60) (a - L.length)).map tI) else none) ?_ ?_
          · unfold F_X11_even
            refine Ok.cpe (X11_isPic.1 ⟨i, hi, rfl⟩) (Ok.f (by decide) (Ok.f hx1 (Ok.t hx2 ?_)))
            refine Ok.call ((pI_ok hB hW hi I J hX hTF.1 hTF.2.1 hp12).fo (fr_X11_partInto _ I J)) (fun r I2 J2 _ hP => ?_)
            obtain ⟨⟨q1, q2, q3, q4⟩, t1, t2⟩ := hP
            simp only at q1 q2 q3 q4 t1 t2
            rw [← hpe] at q3 q4
            rcases q4 with ⟨g1, g2, g3⟩ | ⟨g1, g2⟩
            · have hT := prT_12 hC g1
              have hLl := prL_len g1
              have hcl := pr_CL hC g1
              rw [← hLe] at g3 hLl hcl
              rw [g2]
              refine Ok.t (show nI 0 ≤ nI (prT B p) by rw [n_le] <;> omega) ?_
              by_cases g6 : prT B p ≤ a
              · rw [if_pos (show prT B p < 99 ∧ prT B p ≤ a from ⟨g1, g6⟩), if_pos (show prT B p < 99 ∧ prT B p ≤ a from ⟨g1, g6⟩)]
                refine Ok.t (by rw [n_le] <;> omega) ?_
                refine Ok.call ((X4_giveSlots hB hW (by omega) hll hC h60 hcl.1 hcl.2 (show a ≤ 200 by omega) (by omega) I2 J2 q1 q2.2.2 q3 g3 q2.1.2.2.2).fo (fr_X4_giveSlots _ I2 J2)) (fun r I3 J3 _ hP => ?_)
                obtain ⟨⟨w1, w2, w3⟩, u1, u2⟩ := hP
                simp only at w1 w2 w3 u1 u2
                have q2' : rfQ B I3 J3 := ⟨q2.1.keep (Ag.of u1 (by decide)) (Ag.of u2 (by decide)), by rw [u1 _ _ rfl]; exact q2.2.1, w2⟩
                have hol := slL_len B L (lsP p 60) (a - L.length)
                rw [show prT B p = (slL B L (lsP p 60) (a - L.length)).length by omega]
                refine Ok.call (tellX43 (by omega) I3 J3 (fun k hk => by rw [slL_at (by omega)]; exact w3 k (by omega))) (fun r I4 J4 _ hP => ?_)
                obtain ⟨v1, v2, v3⟩ := hP
                simp only at v1 v2 v3
                exact Ok.mk ⟨w1, (q2'.k1 v2 v3).tab, (q2'.k1 v2 v3).2.2, v1⟩
              · rw [if_neg (show ¬ (prT B p < 99 ∧ prT B p ≤ a) from fun hh => g6 hh.2), if_neg (show ¬ (prT B p < 99 ∧ prT B p ≤ a) from fun hh => g6 hh.2)]
                exact Ok.f (by rw [n_le] <;> omega) (Ok.mk ⟨rfl, q2.tab, q2.2.2, toX_o t1 t2 (by decide) (by decide)⟩)
            · rw [if_neg (show ¬ (prT B p < 99 ∧ prT B p ≤ a) from fun hh => g1 hh.1), if_neg (show ¬ (prT B p < 99 ∧ prT B p ≤ a) from fun hh => g1 hh.1), g2]
              exact Ok.f (by decide) (Ok.mk ⟨rfl, q2.tab, q2.2.2, toX_o t1 t2 (by decide) (by decide)⟩)
          · intro I1 J1 hM hMo u1 u2
            have sT := th_s I1 0
            have hM2 : MB B (ui I1 m_self f_Model_thrown 0) := hM.keep (Ag.of sT (by decide))
            have hpe' : J1 m_pictures i = p := by rw [u2 _ _ rfl, hpm, hpe]
            have hokp : okLp (bL B) p := by rw [hpe]; exact hpk
            unfold F_X12_even
            refine Ok.lbv (Ok.cpe (ref_4 hB hW hi _ J1 hM2) ?_)
            rw [hpe', if_pos (show pc p ≤ 12 by rw [hpe]; exact hp12)]
            refine Ok.f (by decide) (Ok.cpe hin (Ok.f (by decide) (Ok.t (by decide) (Ok.bxe (by omega) (by omega) ?_))))
            rw [n_cl (by omega), hpe']
            refine Ok.call ((X12_findPartedL hB hW hokp (by rw [hpe]; exact hp12) _ J1 hM2 (hMo.keep (Ag.of sT (by decide)))).fo (fr_X12_findParted _ _ _)) (fun r I2 J2 _ hP => ?_)
            obtain ⟨⟨q1, q2, q3, _, q4⟩, t1, t2⟩ := hP
            simp only at q1 q2 q3 q4 t1 t2
            rcases q4 with ⟨g1, g2, g3⟩ | ⟨g1, g2⟩
            · have hT := prT_12 hC g1
              have hLl := prL_len g1
              have hcl := pr_CL hC g1
              rw [← hLe] at g3 hLl hcl
              rw [g2]
              refine Ok.f (by decide) ?_
              rw [g3.1]
              by_cases g6 : prT B p ≤ a
              · rw [if_pos (show prT B p < 99 ∧ prT B p ≤ a from ⟨g1, g6⟩), if_pos (show prT B p < 99 ∧ prT B p ≤ a from ⟨g1, g6⟩)]
                refine Ok.t (by rw [n_le] <;> omega) ?_
                refine clrM (J := J2) (fun I3 c1 c2 => ?_)
                rw [c2 m_self f_Model_members rfl, q3.1]
                by_cases c0 : (lsP p 60).length = 0
                · have hL0 := hcl.1 c0
                  refine Ok.t (by rw [c0]; rfl) (Ok.mk ⟨?_, q2.k1 c2, ?_⟩)
                  · unfold evS; rw [if_pos c0]
                  · have e : slL B L (lsP p 60) (a - L.length) = [] := List.eq_nil_of_length_eq_zero (by rw [slL_len]; exact hL0)
                    rw [e]; exact c1
                · have hL0 := hcl.2 (by omega)
                  refine Ok.f (show ¬ nI (lsP p 60).length = nI 0 by rw [n_eq] <;> omega) ?_
                  refine X12_even_81 hB hW (L := L) (C := lsP p 60) (by omega) hll hC (fun k hk => lsP_b hokp hk) I3 J2 (fun I4 J4 d1 d2 d3 d4 d5 d6 => ?_) bgf 0 (Nat.zero_le _) (by unfold bgf; omega) I3 J2 c1 (q1.keep (Ag.of c2 (by decide)) (Ag.of c2 (by decide))) (q2.k1 c2) ⟨by rw [c2 _ _ rfl]; exact q3.1, fun k hk => by rw [c2 _ _ rfl]; exact q3.2 k hk⟩ ⟨by rw [c2 _ _ rfl]; exact g3.1, fun k hk => by rw [c2 _ _ rfl]; exact g3.2 k hk⟩ (fun t' h => absurd h (Nat.not_lt_zero _)) (fun t' k h => absurd h (Nat.not_lt_zero _))
                  refine Ok.lbv ?_
                  rw [d4.1, n_sub (by omega)]
                  have h181 := X12_even_181 (B := B) (L := L) (C := lsP p 60) (by omega) hL0 hC (by omega) (N := a - L.length) (by omega) (J := J4) d6 (kx := fun (I29 : HI) => F_X12_even_L267 (fun (I32 : HI) (J33 : HJ) => cp (F_X12_dimmest I32 J33) fun r34 => cp (F_X12_sumOf r34 I32 J33) fun r35 => some (r35, I32, J33)) bgf (0 : Int32) I29 J4) (Q := fun q => q.1 = evS B L (lsP p 60) (a - L.length) ∧ CMod q.2.1 ∧ toM (some ((slL B L (lsP p 60) (a - L.length)).map tI)) I1 J1 q.2.1 q.2.2) I4 d4.1 d3.1 (fun I5 f1 f2 => ?_) bgf 0 (Nat.zero_le _) (by unfold bgf; omega) I4 Sm.rf d5
                  · rw [Nat.sub_zero] at h181; exact h181
                  · have hol := slL_len B L (lsP p 60) (a - L.length)
                    refine tellE (L := slL B L (lsP p 60) (a - L.length)) (by omega) I5 J4 ⟨by rw [f1 _ _ rfl]; exact d1.1, fun k h => by cases h⟩ (by rw [f1 _ _ rfl, d4.1, hol]) (fun k hk => by rw [slL_at (by omega)]; exact f2 k (by omega)) (fun I6 J6 v1 v2 v3 => ?_)
                    have hdm : dmC B L (lsP p 60) (slR B L (lsP p 60) (a - L.length)) < (lsP p 60).length := dmF_lt _ (by omega)
                    have hs6 : ∀ t, t < L.length → I6 m_slots t = nI (slR B L (lsP p 60) (a - L.length) t) := fun t ht => by rw [v2 _ _ rfl]; exact f2 t ht
                    have hg6 : ∀ t k, t < L.length → k < (lsP p 60).length → J6 m_lightIn (12 * t + k) = lgS B L (lsP p 60) t k := fun t k ht hk => by rw [v3 _ _ rfl]; exact d6 t k ht hk
                    have h06 : I6 m_self f_Model_turns = nI L.length := by rw [v2 _ _ rfl, f1 _ _ rfl]; exact d4.1
                    refine Ok.cpe (X12_dimmest (by omega) hC (by omega) h06 (by rw [v2 _ _ rfl, f1 _ _ rfl]; exact d3.1) hs6 hg6) (Ok.cpe (X12_sumOf (L := L) (by omega) (by omega) h06 hs6 (fun t ht => hg6 t _ ht hdm)) (Ok.mk ⟨?_, (d2.keep (Ag.of f1 (by decide))).k1 v2, v1⟩))
                    unfold evS; rw [if_neg c0]
              · rw [if_neg (show ¬ (prT B p < 99 ∧ prT B p ≤ a) from fun hh => g6 hh.2), if_neg (show ¬ (prT B p < 99 ∧ prT B p ≤ a) from fun hh => g6 hh.2)]
                exact Ok.f (by rw [n_le] <;> omega) (Ok.mk ⟨rfl, q2, toM_2 sT t1 t2 (by decide) (by decide) (by decide)⟩)
            · rw [if_neg (show ¬ (prT B p < 99 ∧ prT B p ≤ a) from fun hh => g1 hh.1), if_neg (show ¬ (prT B p < 99 ∧ prT B p ≤ a) from fun hh => g1 hh.1), g2]
              exact Ok.t rfl (Ok.mk ⟨rfl, q2, toM_2 sT t1 t2 (by decide) (by decide) (by decide)⟩)
        · refine no (-4) (by decide) (by decide) (openP_4 hB hW hi I J hX hp12) ?_
          rw [ref_4 hB hW hi _ J hM0', hpm, if_neg hp12]
      · exact no (-3) (by decide) (by decide) (openP_3 hB hW hi I J hX) (ref_3 hB hW hi _ J hM0')
    · obtain ⟨r, r1, r2⟩ := hnr
      refine ⟨-1, I, J, ui I m_self f_Model_thrown 0, J, ?_, ?_, IV_th h (th_s I 0) Sm.rf⟩
      · unfold F_X11_even
        refine (cp1 (X11_isPic.1 ⟨i, hi, rfl⟩)).trans ?_
        by_cases c1 : a2 < (1 : Int32)
        · rw [if_pos c1]
        · rw [if_neg c1, if_neg]
          intro c2
          rw [i_lt] at c1
          rw [i_le] at c2
          have e1 : (1 : Int32).toInt = 1 := by decide
          have e2 : (200 : Int32).toInt = 200 := by decide
          omega
      · unfold F_X12_even
        refine (lb_e _ _).trans ?_
        rw [r1]
        show (if r = -1 then _ else _) = _
        rw [if_neg r2]
        refine cp0 ?_
        show F_X12_in (Int32.toInt64 a2) (lN 1) (lN 200) = _
        rw [in_spec, l_i, L_int (by omega), L_int (by omega), if_neg (by omega)]; rfl
  · refine ⟨-1, I, J, ui I m_self f_Model_thrown 0, J, ?_, ?_, IV_th h (th_s I 0) Sm.rf⟩
    · unfold F_X11_even
      exact cp0 (X11_isPic.2 hn)
    · unfold F_X12_even
      refine (lb_e _ _).trans ?_
      rw [ref_1 hn]
      simp only [cp, Option.bind_some, if_true]

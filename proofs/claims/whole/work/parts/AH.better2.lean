/-! LAYER 2: better, the call -/
noncomputable def prR (B : Bd) (p : Int64) : Int32 := if prT B p < 99 then nI (prT B p) else -2
theorem pc_okL {L : Nat} {p : Int64} (h : okLp L p) (hL : L ≤ 64) : pc p ≤ L := by
  have e : pcP 64 (bt p) = pcP L (bt p) := pc_gap hL (fun j h1 _ => h j h1)
  show pcP 64 (bt p) ≤ L
  rw [e]; exact pcP_le L _
theorem OP29 (n : Nat) (b : Bool) (I : HI) (J : HJ) (a1 a2 a3 a4 : Int32) (h : Iv (n + 1) b I J) : Op29 (Iv n) b I J a1 a2 a3 a4 := by
  obtain ⟨B, nb, h⟩ := h
  have hB := h.1
  have h60 := hB.2.2.1
  have hW10 := hB.2.1
  have hX := h.2.1
  have hM0 := h.2.2.1
  have hTF := h.2.2.2.2.2.2.2.2.2
  have hM0' : MB B (ui I m_self f_Model_thrown 0) := hM0.keep (Ag.of (th_s I 0) (by decide))
  rcases i_case a1 4 (by omega) with ⟨i, hi, rfl⟩ | ⟨hn, _⟩
  · have hin : F_X12_in (Int32.toInt64 (nI i)) (0 : Int64) (3 : Int64) = some (nI 1) := (in_c (n := 4) (by omega) (by omega)).1 ⟨i, hi, rfl⟩
    obtain ⟨hpm, hpk⟩ := h.2.2.2.2.1.2.2.2.1 i hi
    by_cases c2 : 2 ≤ bL B
    · have c2' : (2 : Int32) ≤ nI (bL B) := (by rw [n_le (by omega) (by omega)]; exact c2 : nI 2 ≤ nI (bL B))
      by_cases c4 : 4 < bW B
      · have c4' : (4 : Int32) < nI (bW B) := (by rw [n_lt (by omega) (by omega)]; exact c4 : nI 4 < nI (bW B))
        refine ⟨-3, I, J, ui I m_self f_Model_thrown 0, J, ?_, ?_, IV_th h (th_s I 0) Sm.rf⟩
        · unfold F_X11_better
          refine (cp1 (X11_isPic.1 ⟨i, hi, rfl⟩)).trans ?_
          rw [hX.2.1, hX.1, if_pos c2', if_pos c4']
        · unfold F_X12_better
          refine (lb_e _ _).trans ((cp1 hin).trans ?_)
          rw [hM0'.2.1, hM0'.1, if_pos c2', if_pos c4']
      · have c4' : ¬ (4 : Int32) < nI (bW B) := (by rw [n_lt (by omega) (by omega)]; exact c4 : ¬ nI 4 < nI (bW B))
        by_cases c12 : bL B ≤ 12
        · have c12' : nI (bL B) ≤ (12 : Int32) := (by rw [n_le (by omega) (by omega)]; exact c12 : nI (bL B) ≤ nI 12)
          have hW : bW B ≤ 7 := by omega
          obtain ⟨p, hpe⟩ : ∃ p, p = J x_notes_pictures i := ⟨_, rfl⟩
          have hokp : okLp (bL B) p := by rw [hpe]; exact hpk
          have hp12 : pc p ≤ 12 := by have := pc_okL hokp (by omega); omega
          have hp12' : pc (J x_notes_pictures i) ≤ 12 := by rw [← hpe]; exact hp12
          have rpos : ∀ st l3 l4 l5, trQ st l3 l4 l5 → ((st = none ∧ l3 = -2) ∨ ∃ v a c, st = some (v, a, c) ∧ l3 = nI v ∧ l4 = nI a ∧ l5 = nI c ∧ v ≤ 12) := by
            intro st l3 l4 l5 ht
            cases st with
            | none => exact Or.inl ⟨rfl, ht⟩
            | some t =>
              obtain ⟨v, a, c⟩ := t
              exact Or.inr ⟨v, a, c, rfl, ht⟩
          refine bothF (P := fun q => XB B q.2.1 q.2.2 ∧ CFlow q.2.1 q.2.2 ∧ CTab B q.2.1 q.2.2 ∧ ((btI B p (bL B) = none ∧ q.1 = -2 ∧ toX none I J q.2.1 q.2.2) ∨ ∃ v a c, btI B p (bL B) = some (v, a, c) ∧ v ≤ 12 ∧ q.1 = nI v ∧ tX [tI a, tI c, Int32.toInt64 (prR B p)] q.2.1 q.2.2)) ?_ (fr_X11_better (nI i) I J) (fun I1 J1 => fr_X12_better (nI i) I1 J1) ?_
          · unfold F_X11_better
            refine Ok.cpe (X11_isPic.1 ⟨i, hi, rfl⟩) (Ok.f (by decide) ?_)
            rw [hX.2.1, hX.1]
            refine Ok.t c2' (Ok.f c4' (Ok.t c12' ?_))
            refine Ok.call ((pI_ok hB hW hi I J hX hTF.1 hTF.2.1 hp12').fo (fr_X11_partInto _ I J)) (fun r I2 J2 e0 hP => ?_)
            obtain ⟨⟨q1, q2, q3, q4⟩, t1, t2⟩ := hP
            simp only at q1 q2 q3 q4 t1 t2
            rw [← hpe] at q4
            have hr : r = prR B p := by
              unfold prR
              rcases q4 with ⟨g1, g2, _⟩ | ⟨g1, g2⟩
              · rw [if_pos g1, g2]
              · rw [if_neg g1, g2]
            refine X11_better_64 hB hW hi hp12 I2 J2 (fun l3 l4 l5 I3 J3 g1 g2 g3 g4 g5 => ?_) bgf 0 (Nat.zero_le _) (by unfold bgf; omega) (-2) (-1) (-1) I2 J2 rfl q1 q2.2.2 (Or.inr q2.tab) ⟨by rw [t2 _ _ rfl, hpe], Sm.rf, Sm.rf⟩
            have hT3 : CTab B I3 J3 := by
              rcases g4 with g | g
              · exact tab_n g
              · exact g
            rcases rpos _ _ _ _ g1 with ⟨e1, e2⟩ | ⟨v, a, c, e1, e2, e3, e4, e5⟩
            · rw [e2]
              refine Ok.t (by decide) (Ok.mk ⟨g2, g3, hT3, Or.inl ⟨e1, rfl, ?_⟩⟩)
              exact ⟨by dsimp only; rw [g5.2.1 _ _ rfl, t1 _ _ rfl], by dsimp only; rw [(Ag.of g5.2.2 (rd := [(x_told_numbers, none)]) (by decide)).c (fun _ => rfl), (Ag.of t2 (rd := [(x_told_numbers, none)]) (by decide)).c (fun _ => rfl)]⟩
            · rw [e2, e3, e4, hr]
              refine Ok.f (n_nn (by omega)) (clr1 (fun I4 k1 k2 => add1 k1 (by simp) (fun I5 J5 k3 k4 k5 => add1 k3 (by simp) (fun I6 J6 k6 k7 k8 => add1 k6 (by simp) (fun I7 J7 k9 k10 k11 => ?_)))))
              have sI : Sm [(x_told, some f_Told_size)] I3 I7 := Sm.tr (by decide) (Sm.tr (by decide) (Sm.tr (by decide) k2 k4) k7) k10
              have sJ : Sm [(x_told_numbers, none)] J3 J7 := Sm.tr (by decide) (Sm.tr (by decide) k5 k8) k11
              exact Ok.mk ⟨g2.keep (Ag.of sI (by decide)) (Ag.of sJ (by decide)), g3.keep (Ag.of sI (by decide)) (Ag.of sJ (by decide)), hT3.keep (Ag.of sI (by decide)) (Ag.of sJ (by decide)), Or.inr ⟨v, a, c, e1, e5, rfl, k9⟩⟩
          · intro r I1 J1 hP s1 s2
            obtain ⟨hX1, hF1, hT1, hP⟩ := hP
            simp only at hX1 hF1 hT1 hP
            have hM1 : MB B I1 := hM0.keep (Ag.of s1 (by decide))
            have sT := th_s I1 0
            have hM2 : MB B (ui I1 m_self f_Model_thrown 0) := hM1.keep (Ag.of sT (by decide))
            have hMo1 : CMod (ui I1 m_self f_Model_thrown 0) := hTF.2.2.1.keep (Ag.two s1 sT (by decide) (by decide))
            have hpe' : J1 m_pictures i = p := by rw [s2 _ _ rfl, hpm, hpe]
            unfold F_X12_better
            refine Ok.lbv (Ok.cpe hin (Ok.f (by decide) ?_))
            rw [hM2.2.1, hM2.1]
            refine Ok.t c2' (Ok.f c4' (Ok.t c12' (Ok.bxe (by omega) (by omega) ?_)))
            rw [n_cl (by omega), hpe']
            refine Ok.call ((X12_findParted hB hW hokp hp12 _ J1 hM2 hMo1).fo (fr_X12_findParted _ _ _)) (fun r8 I2 J2 _ hP2 => ?_)
            obtain ⟨⟨q1, q2, q3, _, q4⟩, t1, t2⟩ := hP2
            simp only at q1 q2 q3 q4 t1 t2
            refine Ok.lbv ?_
            have rest : ∀ y11, y11 = prR B p → Ok (F_X12_better_L82 (nI i) y11 (fun (y35 : Int32) (y36 : Int32) (y37 : Int32) (I38 : HI) (J39 : HJ) => if 0 ≤ y35 then lb (ui I38 m_self f_Model_rowMany (0 : Int32)) fun I40 => cl (F_X12_tell (Int32.toInt64 y36) I40 J39) fun _ I41 J42 => cl (F_X12_tell (Int32.toInt64 y37) I41 J42) fun _ I43 J44 => cl (F_X12_tell (Int32.toInt64 y11) I43 J44) fun _ I45 J46 => some (y35, I45, J46) else some ((-2 : Int32), I38, J39)) bgf (-2 : Int32) (0 : Int32) (0 : Int32) (0 : Int32) I2 J2) (fun q => q.1 = r ∧ (Sm wi_X12_better I1 q.2.1 → Sm wj_X12_better J1 q.2.2 → Iv n b q.2.1 q.2.2)) := by
              intro y11 hy
              rw [hy]
              refine X12_better_82 hB hW hi hokp hp12 I2 J2 (fun l3 l4 l5 I3 J3 g1 g2 g3 g5 => ?_) bgf 0 (Nat.zero_le _) (by unfold bgf; omega) (-2) 0 0 I2 J2 rfl q1 q2 ⟨by rw [t2 _ _ rfl]; exact hpe', Sm.rf, Sm.rf⟩
              rcases rpos _ _ _ _ g1 with ⟨e1, e2⟩ | ⟨v, a, c, e1, e2, e3, e4, e5⟩
              · rcases hP with ⟨_, hr, hto⟩ | ⟨v, a, c, f1, _⟩
                · rw [e2]
                  refine Ok.f (by decide) (Ok.mk ⟨hr.symm, fun u1 u2 => ?_⟩)
                  dsimp only at u1 u2 ⊢
                  obtain ⟨_, _, kTx, kN, _, kP, k0, k1, _, _, _, kB⟩ := IV_k h s1 s2 u1 u2
                  refine ⟨B, nb, hB, hX1.keep (Ag.of u1 (by decide)) (Ag.of u2 (by decide)), g2, kTx (by decide), kN (by decide), ?_, kP (by decide), k0 (by decide), k1 (by decide), hT1.keep (Ag.of u1 (by decide)) (Ag.of u2 (by decide)), hF1.keep (Ag.of u1 (by decide)) (Ag.of u2 (by decide)), g3, kB (by decide)⟩
                  obtain ⟨n', m1, m2, m3, m4⟩ := h.2.2.2.2.2.1
                  refine ⟨n', m1, ?_, ?_, fun k hk => ?_⟩
                  · rw [u1 _ _ rfl, hto.1]; exact m2
                  · rw [g5.2.1 _ _ rfl, t1 _ _ rfl, sT _ _ rfl, s1 _ _ rfl]; exact m3
                  · rw [g5.2.2 _ _ rfl, t2 _ _ rfl, s2 _ _ rfl, u2 x_told_numbers _ rfl, hto.2]; exact m4 k hk
                · rw [f1] at e1; cases e1
              · rcases hP with ⟨f1, _⟩ | ⟨v', a', c', f1, _, hr, hto⟩
                · rw [f1] at e1; cases e1
                · rw [f1] at e1
                  injection e1 with e1
                  injection e1 with x1 x2
                  injection x2 with x2 x3
                  subst x1 x2 x3
                  rw [e2, e3, e4]
                  refine Ok.t (show nI 0 ≤ nI v' by rw [n_le] <;> omega) (clrM (J := J3) (fun I4 k1 k2 => tel1 k1 (by simp) (fun I5 J5 k3 k4 k5 => tel1 k3 (by simp) (fun I6 J6 k6 k7 k8 => tel1 k6 (by simp) (fun I7 J7 k9 k10 k11 => ?_)))))
                  refine Ok.mk ⟨hr.symm, fun u1 u2 => ?_⟩
                  dsimp only at u1 u2 ⊢
                  have sI : Sm [(m_self, some f_Model_rowMany)] I3 I7 := Sm.tr (by decide) (Sm.tr (by decide) (Sm.tr (by decide) k2 k4) k7) k10
                  obtain ⟨_, _, kTx, kN, _, kP, k0, k1, _, _, _, kB⟩ := IV_k h s1 s2 u1 u2
                  exact ⟨B, nb, hB, hX1.keep (Ag.of u1 (by decide)) (Ag.of u2 (by decide)), g2.keep (Ag.of sI (by decide)), kTx (by decide), kN (by decide), CTold.of (hto.keep (Ag.of u1 (by decide)) (Ag.of u2 (by decide))) k9, kP (by decide), k0 (by decide), k1 (by decide), hT1.keep (Ag.of u1 (by decide)) (Ag.of u2 (by decide)), hF1.keep (Ag.of u1 (by decide)) (Ag.of u2 (by decide)), g3.keep (Ag.of sI (by decide)), kB (by decide)⟩
            rcases q4 with ⟨g1, g2, g3⟩ | ⟨g1, g2⟩
            · refine Ok.f (by rw [g2]; decide) (rest _ ?_)
              unfold prR
              rw [if_pos g1, g3.1, prL_len g1]
            · refine Ok.t g2 (rest _ ?_)
              unfold prR
              rw [if_neg g1]
        · have c12' : ¬ nI (bL B) ≤ (12 : Int32) := (by rw [n_le (by omega) (by omega)]; exact c12 : ¬ nI (bL B) ≤ nI 12)
          refine ⟨-3, I, J, ui I m_self f_Model_thrown 0, J, ?_, ?_, IV_th h (th_s I 0) Sm.rf⟩
          · unfold F_X11_better
            refine (cp1 (X11_isPic.1 ⟨i, hi, rfl⟩)).trans ?_
            rw [hX.2.1, hX.1, if_pos c2', if_neg c4', if_neg c12']
          · unfold F_X12_better
            refine (lb_e _ _).trans ((cp1 hin).trans ?_)
            rw [hM0'.2.1, hM0'.1, if_pos c2', if_neg c4', if_neg c12']
    · have c2' : ¬ (2 : Int32) ≤ nI (bL B) := (by rw [n_le (by omega) (by omega)]; exact c2 : ¬ nI 2 ≤ nI (bL B))
      refine ⟨-1, I, J, ui I m_self f_Model_thrown 0, J, ?_, ?_, IV_th h (th_s I 0) Sm.rf⟩
      · unfold F_X11_better
        refine (cp1 (X11_isPic.1 ⟨i, hi, rfl⟩)).trans ?_
        rw [hX.2.1, if_neg c2']
      · unfold F_X12_better
        refine (lb_e _ _).trans ((cp1 hin).trans ?_)
        rw [hM0'.2.1, if_neg c2']
  · refine ⟨-1, I, J, ui I m_self f_Model_thrown 0, J, ?_, ?_, IV_th h (th_s I 0) Sm.rf⟩
    · unfold F_X11_better
      exact cp0 (X11_isPic.2 hn)
    · unfold F_X12_better
      exact (lb_e _ _).trans (cp0 ((in_c (n := 4) (by omega) (by omega)).2 hn : F_X12_in (Int32.toInt64 a1) 0 3 = _))

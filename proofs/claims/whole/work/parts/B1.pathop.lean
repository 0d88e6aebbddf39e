/-! LAYER 2: path, both; all calls -/
theorem path_both {n : Nat} {b : Bool} {I : HI} {J : HJ} {B : Bd} {nb : Nat} (h : IV (n + 1) B nb I J) {gr : HI → HJ → Option (Unit × HI × HJ)} (hg : grO gr) (a1 : Int32) : ∃ r I1 J1 I2 J2, paC gr a1 I J = some (r, I1, J1) ∧ F_X12_path a1 I1 J1 = some (r, I2, J2) ∧ Iv n b I2 J2 := by
  have hB := h.1
  have hX := h.2.1
  have hM0 := h.2.2.1
  have hTF := h.2.2.2.2.2.2.2.2.2
  obtain ⟨m, sh, sl, sg, hSx, hSm⟩ := h.2.2.2.2.1.sn
  obtain ⟨C, hCe⟩ : ∃ C, C = agL B m sh sl sg (nF B) := ⟨_, rfl⟩
  have hnF := nF_le hB
  have hC : C.length ≤ 116 := by rw [hCe]; exact Nat.le_trans (agL_len B m sh sl sg (nF B)) hnF
  have hCl : ∀ k, k < C.length → C.getD k 0 < nF B := by rw [hCe]; exact fun k hk => agL_lt hk
  obtain ⟨T, hT, pT1, pT2, pT3⟩ := h.2.2.2.2.2.2.1
  obtain ⟨th, hth⟩ : ∃ th, th = I x_plan_testHigh := ⟨_, rfl⟩
  obtain ⟨tl, htl⟩ : ∃ tl, tl = I x_plan_testLow := ⟨_, rfl⟩
  have hok : ∀ t, t < T → okS (bi (th t)) (bi (tl t)) := fun t ht => by rw [hth, htl]; exact (pT3 t ht).2.2.1
  have hts : tsX T th tl I := ⟨pT1, fun t _ => ⟨by rw [hth], by rw [htl]⟩⟩
  have hp1 : (2 : Nat) ^ T ≤ 2 ^ 8 := Nat.pow_le_pow_right (by omega) hT
  have hp0 : 0 < (2 : Nat) ^ T := Nat.pow_pos (by omega)
  have al0 : ∀ (bn : Nat → Nat → Int64) i j, alD T bn 0 i j := fun bn i j t _ hb => by rw [Nat.zero_testBit] at hb; cases hb
  rcases i_case a1 (nF B) (by omega) with ⟨f, hf, rfl⟩ | ⟨hn, _⟩
  · cases hd : fsS (dis B sh sl sg f) m with
    | some k =>
      have hk12 : k < 12 := by
        have := (fsS_some.mp hd).1
        have := hSx.1
        omega
      have hne : ¬ fsI (some k) = (-2 : Int32) := fun e => by
        have e' := congrArg Int32.toInt (show nI k = (-2 : Int32) from e)
        rw [n_int (by omega), show (-2 : Int32).toInt = -2 from by decide] at e'
        omega
      refine srch h (fr_paC hg (nI f) I J) (fun I1 J1 => fr_X12_path (nI f) I1 J1) (by decide) (-1) none ?_ ?_
      · unfold paC
        refine Ok.cpe ((X7_has hB hX).1 ⟨f, hf, rfl⟩) (Ok.f (by decide) ?_)
        refine Ok.call ((X7_against hB hf I J hX hTF.2.1 hSx).fo (fr_X7_firstAgainst _ I J)) (fun r I4 J5 _ hP => ?_)
        obtain ⟨⟨q1, q2⟩, q3, q4⟩ := hP
        simp only at q1 q2 q3 q4
        rw [hd] at q1
        exact Ok.f (by rw [q1]; exact hne) (Ok.mk ⟨rfl, hTF.1.keep (Ag.of q3 (by decide)) (Ag.of q4 (by decide)), q2, toX_o q3 q4 (by decide) (by decide)⟩)
      · intro I1 J1 hM hMo u1 u2
        have sT := th_s I1 0
        have hM2 : MB B (ui I1 m_self f_Model_thrown 0) := hM.keep (Ag.of sT (by decide))
        unfold F_X12_path
        refine Ok.lbv (Ok.cpe ((X12_isFault hB hM2).1 ⟨f, hf, rfl⟩) (Ok.f (by decide) ?_))
        refine Ok.call ((X12_bar hB hf _ J1 hM2 (hMo.keep (Ag.of sT (by decide))) (hSm.keep (Ag.two u1 sT (by decide) (by decide)) (Ag.of u2 (by decide)))).fo (fr_X12_bar _ _ J1)) (fun r I8 J9 _ hP => ?_)
        obtain ⟨q1, q3, q4⟩ := hP
        simp only at q1 q3 q4
        rw [hd] at q1
        exact Ok.f (by rw [q1]; exact hne) (Ok.mk ⟨rfl, hMo.keep (Ag.two sT q3 (by decide) (by decide)), toM_2 sT q3 q4 (by decide) (by decide) (by decide)⟩)
    | none =>
      obtain ⟨l, hl, hlf, hno⟩ : ∃ l, l < C.length ∧ C.getD l 0 = f ∧ ∀ k, k < l → C.getD k 0 ≠ f := by rw [hCe]; exact agL_at hf hd
      obtain ⟨an, han⟩ : ∃ an, an = anS B C th tl := ⟨_, rfl⟩
      have hmT : msD T 0 ≤ 8 := Nat.le_trans (pcP_le T _) hT
      obtain ⟨F, hF⟩ : ∃ F, F = pthS T C.length an l 8 0 := ⟨_, rfl⟩
      obtain ⟨hF1, hF2, hF3⟩ := pthS_p (N := C.length) (an := an) hT (l := l) 8 0 hp0 hmT
      rw [← hF] at hF1 hF2 hF3
      obtain ⟨S, hS⟩ : ∃ S, S = pcP C.length (fun i => decide (ldr T an (flM T) i = ldr T an (flM T) l)) := ⟨_, rfl⟩
      refine srch h (fr_paC hg (nI f) I J) (fun I1 J1 => fr_X12_path (nI f) I1 J1) (by decide) (nI F.1.length) (some (F.1.map tI ++ [Int32.toInt64 (nI S)])) ?_ ?_
      · unfold paC
        refine Ok.cpe ((X7_has hB hX).1 ⟨f, hf, rfl⟩) (Ok.f (by decide) ?_)
        refine Ok.call ((X7_against hB hf I J hX hTF.2.1 hSx).fo (fr_X7_firstAgainst _ I J)) (fun r I4 J5 _ hP => ?_)
        obtain ⟨⟨q1, q2⟩, q3, q4⟩ := hP
        simp only at q1 q2 q3 q4
        rw [hd] at q1
        refine Ok.t q1 ?_
        have hX4 : XB B I4 J5 := hX.keep (Ag.of q3 (by decide)) (Ag.of q4 (by decide))
        refine Ok.call ((X7_gather hB I4 J5 hX4 q2 (hSx.keep (Ag.of q3 (by decide)) (Ag.of q4 (by decide)))).fo (fr_X7_gather I4 J5)) (fun r I6 J7 _ hP => ?_)
        obtain ⟨⟨p1, p2⟩, s1, s2⟩ := hP
        simp only at p1 p2 s1 s2
        rw [← hCe] at p1
        refine Ok.call ((hg.2 B C T th tl I6 J7 hB hC (by omega) hCl hT hok (hX4.keep (Ag.of s1 (by decide)) (Ag.of s2 (by decide))) p2 p1 ⟨by rw [s1 _ _ rfl, q3 _ _ rfl]; exact hts.1, fun t ht => by rw [s1 _ _ rfl, q3 _ _ rfl, s1 _ _ rfl, q3 _ _ rfl]; exact hts.2 t ht⟩).fo (hg.1 I6 J7)) (fun r I8 J9 _ hP => ?_)
        obtain ⟨⟨p3, p4, p5, G, gp, bn, g1, g2, g3⟩, t1, t2⟩ := hP
        simp only at p3 p4 p5 g1 g2 g3 t1 t2
        rw [← han] at g1
        have hGl : G ≤ 116 := by have := g1.2.1; omega
        have hbs := g1.2.2.2.2.1
        have hdst := g1.2.2.2.2.2.1
        have hgl := (hbs.1 l hl).1
        have hSS : pcP C.length (fun i => decide (gp i = gp l)) = S := by
          rw [hS]
          unfold pcP
          refine List.countP_congr (fun i hi => ?_)
          have hi' := List.mem_range.mp hi
          rw [decide_eq_true_eq, decide_eq_true_eq, ldr_al, al_fl]
          constructor
          · intro e t ht; rw [(hbs.1 i hi').2 t ht, (hbs.1 l hl).2 t ht, e]
          · intro e; exact hdst _ _ (hbs.1 i hi').1 hgl (fun t ht => by rw [← (hbs.1 i hi').2 t ht, ← (hbs.1 l hl).2 t ht]; exact e t ht)
        unfold F_X11_path_C40
        refine clr1 (fun I10 k1 k2 => ?_)
        have ag10 : agX C I10 := p4.keep (Ag.of k2 (by decide))
        have gp10 : ∀ i, i < C.length → I10 x_plan_groupOf i = nI (gp i) := fun i hi => by rw [k2 _ _ rfl]; exact g1.2.2.1 i hi
        refine Ok.cpe (X5_groupOf hC hl hlf (by omega) (fun k hk => by have := hCl k hk; omega) hno ag10 gp10) ?_
        have hg5 : I10 x_plan f_Plan_groups = nI G := by rw [k2 _ _ rfl]; exact g1.1
        have ht5 : I10 x_plan f_Plan_tests = nI T := by rw [k2 _ _ rfl]; exact p5.1
        have hc5 : clQ T G bn (2 ^ T) I10 := fun u hu => ⟨fun g hg' => by rw [k2 _ _ rfl]; exact (g2 u hu).1 g hg', by rw [k2 _ _ rfl]; exact (g2 u hu).2⟩
        have hd5 : dpQ T G bn 0 I10 := fun u a b' g hg' hl' => by rw [k2 _ _ rfl]; exact g3 u a b' g hg' hl'
        obtain ⟨o, e1, e2⟩ := X5_first (J := J9) (u := 0) (g := gp l) hT hGl hp0 hgl hg5 ht5 hc5 hd5
        have ho : o = ftC T C.length an 0 l := ftC_e ((ft_bi hbs hl).mpr e2)
        refine Ok.cpe e1 ?_
        rw [ho]
        refine X11_path_75 (N := C.length) hT hGl hbs hl I10 J9 hg5 ht5 hc5 hd5 F.1 (fun I19 J20 m1 m2 m3 => ?_) 8 bgf 0 [] I10 J9 (by unfold bgf; omega) hmT (by simp) hp0 (by rw [hF]; rfl) k1 Sm.rf Sm.rf
        refine Ok.cpe (X5_sizeOf (gp := gp) (g := gp l) hC (by omega) (fun i hi => by have := (hbs.1 i hi).1; omega) (ag10.keep (Ag.of m2 (by decide))) (fun i hi => by rw [m2 _ _ rfl]; exact gp10 i hi)) ?_
        rw [hSS]
        refine add1 m1 (by simp; omega) (fun I22 J23 m4 m5 m6 => ?_)
        have sI : Sm [(x_told, some f_Told_size)] I8 I22 := Sm.tr (by decide) (Sm.tr (by decide) k2 m2) m5
        have sJ : Sm [(x_told_numbers, none)] J9 J23 := Sm.tr (by decide) m3 m6
        exact Ok.mk ⟨rfl, (((hTF.1.keep (Ag.of q3 (by decide)) (Ag.of q4 (by decide))).keep (Ag.of s1 (by decide)) (Ag.of s2 (by decide))).keep (Ag.of t1 (by decide)) (Ag.of t2 (by decide))).keep (Ag.of sI (by decide)) (Ag.of sJ (by decide)), p3.keep (Ag.of sI (by decide)) (Ag.of sJ (by decide)), m4⟩
      · intro I1 J1 hM hMo u1 u2
        have sT := th_s I1 0
        have hM2 : MB B (ui I1 m_self f_Model_thrown 0) := hM.keep (Ag.of sT (by decide))
        have hMo2 : CMod (ui I1 m_self f_Model_thrown 0) := hMo.keep (Ag.of sT (by decide))
        have hSm2 := hSm.keep (Ag.two u1 sT (by decide) (by decide)) (Ag.of u2 (by decide))
        unfold F_X12_path
        refine Ok.lbv (Ok.cpe ((X12_isFault hB hM2).1 ⟨f, hf, rfl⟩) (Ok.f (by decide) ?_))
        refine Ok.call ((X12_bar hB hf _ J1 hM2 hMo2 hSm2).fo (fr_X12_bar _ _ J1)) (fun r I8 J9 _ hP => ?_)
        obtain ⟨q1, q3, q4⟩ := hP
        simp only at q1 q3 q4
        rw [hd] at q1
        refine Ok.t q1 ?_
        refine Ok.call (X12_answers hB hCe hT hok I8 J9 (hM2.keep (Ag.of q3 (by decide))) (hMo2.keep (Ag.of q3 (by decide))) (hSm2.keep (Ag.of q3 (by decide)) (Ag.of q4 (by decide))) ⟨by rw [q3 _ _ rfl, sT _ _ rfl, u1 _ _ rfl]; exact pT2, fun t ht => by rw [q3 _ _ rfl, sT _ _ rfl, u1 _ _ rfl, q3 _ _ rfl, sT _ _ rfl, u1 _ _ rfl, (pT3 t ht).1, (pT3 t ht).2.1, hth, htl]; exact ⟨rfl, rfl⟩⟩) (fun r I10 J11 _ hP => ?_)
        obtain ⟨p1, p2, p3⟩ := hP
        simp only at p1 p2 p3
        rw [← han] at p3
        have l31 : ∀ (kx : Int32 → Option (Int32 × HI × HJ)) (Q : Int32 × HI × HJ → Prop), Ok (kx (nI l)) Q → ∀ K k, k ≤ l → l - k < K → Ok (F_X12_path_L31 (nI f) I10 J11 kx K (nI k)) Q := by
          intro kx Q hx
          refine up ?_ ?_
          · intro K
            rw [F_X12_path_L31]
            refine Ok.bxe (by omega) (by omega) ?_
            rw [n_cl (by omega), p2.2 l hl, hlf]
            exact Ok.t rfl hx
          · intro K k hk ih
            have hkb := hCl k (by omega)
            have := hno k hk
            rw [F_X12_path_L31]
            refine Ok.bxe (by omega) (by omega) ?_
            rw [n_cl (by omega), p2.2 k (by omega), nI_1]
            exact Ok.f (by rw [n_eq] <;> omega) ih
        refine l31 _ _ ?_ bgf 0 (Nat.zero_le _) (by unfold bgf; omega)
        refine clrM (J := J11) (fun I13 k1 k2 => ?_)
        have hr13 := p3.ko k2 (Sm.rf : Sm [(m_row, none)] J11 J11)
        refine Ok.call (X12_first (u := 0) (i := 0) hT hC hp0 (by omega) I13 J11 hr13) (fun r14 I15 J16 _ hP => ?_)
        obtain ⟨o, o1, o2, o3, o4, o5⟩ := hP
        simp only at o1 o3 o4 o5
        subst o3
        have ho : o = ftC T C.length an 0 l := ftC_e (ftQ_al (by omega) hl (al0 an 0 l) o2)
        rw [o1, ho]
        refine X12_path_65 hT hC hl F (fun I26 J27 m1 m2 m3 => ?_) 8 bgf 0 [] I15 J16 (by unfold bgf; omega) hmT (by simp) hp0 (by rw [hF]; rfl) (by rw [hF]) ⟨by rw [o4 _ _ rfl]; exact k1.1, fun k h => by cases h⟩ ((p1.k1 k2).keep (Ag.of o4 (by decide))) (hr13.kd o4 o5)
        have hiff : ∀ j, j < C.length → (ldr T an F.2 j = ldr T an F.2 l ↔ ldr T an (flM T) j = ldr T an (flM T) l) := by
          intro j hj
          rw [ldr_al, ldr_al, al_fl]
          constructor
          · intro ha t ht; exact hF3 t ht j hj ha.sy
          · intro ha t ht _; exact ha t ht
        have l110 : ∀ (kx : Int32 → Option (Int32 × HI × HJ)) (Q : Int32 × HI × HJ → Prop) (l4 : Int32), Ok (kx (nI S)) Q → ∀ K k, k ≤ C.length → C.length - k < K → Ok (F_X12_path_L110 (nI l) (nI F.2) l4 I26 J27 kx K (nI (pcP k (fun i => decide (ldr T an (flM T) i = ldr T an (flM T) l)))) (nI k)) Q := by
          intro kx Q l4 hx
          refine up ?_ ?_
          · intro K
            rw [F_X12_path_L110]
            refine Ok.t (by rw [m3.1, n_le] <;> omega) ?_
            rw [← hS]; exact hx
          · intro K k hk ih
            rw [F_X12_path_L110]
            refine Ok.f (by rw [m3.1, n_le] <;> omega) (Ok.cpe (X12_alike hT hC hF2 hk hl m3) (Ok.lbv ?_))
            rw [show nI k + (1 : Int32) = nI (k + 1) from nI_1 k]
            rw [pcP_s] at ih
            by_cases c : ldr T an F.2 k = ldr T an F.2 l
            · rw [decide_eq_true ((hiff k hk).mp c), if_pos rfl] at ih
              rw [decide_eq_true c]
              refine Ok.f (by decide) (Ok.lbv ?_)
              rw [nI_1]; exact ih
            · rw [decide_eq_false (fun e => c ((hiff k hk).mpr e)), if_neg (by decide)] at ih
              rw [decide_eq_false c]
              refine Ok.t rfl (Ok.lbv ?_)
              rw [show (0 : Int32) = nI 0 from rfl, nI_add]; exact ih
        refine l110 _ _ _ ?_ bgf 0 (Nat.zero_le _) (by unfold bgf; omega)
        refine tel1 m1 (by simp; omega) (fun I34 J35 m4 m5 m6 => ?_)
        exact Ok.mk ⟨rfl, m2.k1 m5, m4⟩
  · refine ⟨-1, I, J, ui I m_self f_Model_thrown 0, J, ?_, ?_, IV_th h (th_s I 0) Sm.rf⟩
    · unfold paC
      exact cp0 ((X7_has hB hX).2 hn)
    · unfold F_X12_path
      exact (lb_e _ _).trans (cp0 ((X12_isFault (J := J) hB (hM0.keep (Ag.of (th_s I 0) (by decide)))).2 hn))
theorem OP43 (n : Nat) (b : Bool) (I : HI) (J : HJ) (a1 a2 a3 a4 : Int32) (h : Iv (n + 1) b I J) : Op43 (Iv n) b I J a1 a2 a3 a4 := by
  obtain ⟨B, nb, h⟩ := h
  refine ⟨fun _ => path_both h gr_t a1, fun _ => ?_⟩
  obtain ⟨r, I1, J1, I2, J2, e1, e2, e3⟩ := path_both (b := true) h gr_f a1
  have e : ∃ b', F_X11_pathf a1 I J = some (b', r, I1, J1) := by
    unfold paC at e1
    unfold F_X11_pathf
    unfold cp cl at e1 ⊢
    cases hh : F_X7_has a1 I J with
    | none => rw [hh] at e1; cases e1
    | some r2 =>
      rw [hh] at e1
      simp only [Option.bind_some] at e1 ⊢
      by_cases c : r2 = 0
      · rw [if_pos c] at e1 ⊢
        injection e1 with e1
        injection e1 with x1 x2
        injection x2 with x2 x3
        exact ⟨false, by rw [x1, x2, x3]⟩
      · rw [if_neg c] at e1 ⊢
        cases ha : F_X7_firstAgainst a1 I J with
        | none => rw [ha] at e1; cases e1
        | some q =>
          rw [ha] at e1
          simp only [Option.bind_some] at e1 ⊢
          by_cases d : q.1 = -2
          · rw [if_pos d] at e1 ⊢
            cases hg : F_X7_gather q.2.1 q.2.2 with
            | none => rw [hg] at e1; cases e1
            | some p =>
              rw [hg] at e1
              simp only [Option.bind_some] at e1 ⊢
              cases hgr : F_X5_growf p.2.1 p.2.2 with
              | none => rw [hgr] at e1; cases e1
              | some s =>
                rw [hgr] at e1
                simp only [Option.bind_some] at e1 ⊢
                rw [e1]
                exact ⟨true, rfl⟩
          · rw [if_neg d] at e1 ⊢
            injection e1 with e1
            injection e1 with x1 x2
            injection x2 with x2 x3
            exact ⟨false, by rw [x1, x2, x3]⟩
  obtain ⟨b', e⟩ := e
  exact ⟨b', r, I1, J1, I2, J2, e, e2, e3⟩

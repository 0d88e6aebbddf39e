/-! LAYER 2: board: the reference's lines -/
def lnEm (l : Ln) (k : Nat) (I : HI) : Prop := I m_line (4 * k) = nI l.1 ∧ (l.1 = 0 → I m_line (4 * k + 1) = nI l.2.2.2) ∧ (l.1 = 1 → I m_line (4 * k + 1) = nI l.2.1 ∧ I m_line (4 * k + 2) = nI l.2.2.2) ∧ (l.1 = 2 → I m_line (4 * k + 1) = nI l.2.1 ∧ I m_line (4 * k + 2) = nI l.2.2.1 ∧ I m_line (4 * k + 3) = nI l.2.2.2)
def lnM (acc : List Ln) (I : HI) : Prop := ∀ k, k < acc.length → lnEm (acc.getD k ln0) k I
abbrev mlW : Pl := [(m_self, some f_Model_at), (m_self, some f_Model_wrong), (m_line, none)]
theorem lnM.ap {acc : List Ln} {l : Ln} {I I' : HI} (h : lnM acc I) (hk : ∀ j, j < 4 * acc.length → I' m_line j = I m_line j) (hl : lnEm l acc.length I') : lnM (acc ++ [l]) I' := by
  intro k hk2
  rw [List.length_append, List.length_singleton] at hk2
  rw [gD_ap]
  by_cases c : k = acc.length
  · rw [if_pos c, c]; exact hl
  · rw [if_neg c]
    obtain ⟨h1, h2, h3, h4⟩ := h k (by omega)
    unfold lnEm
    rw [hk _ (by omega), hk _ (by omega), hk _ (by omega), hk _ (by omega)]
    exact ⟨h1, h2, h3, h4⟩
/-- how the reference's reading ends -/
def enM (res : Nat ⊕ (List Ln)) (sz n : Nat) (I : HI) : Prop := (∃ e, e ≤ 80 ∧ res = Sum.inl e ∧ I m_self f_Model_wrong = nI e) ∨ (∃ b, b < min sz 76 ∧ res = Sum.inl b ∧ I m_self f_Model_wrong = -1 ∧ I m_self f_Model_at = nI b) ∨ (∃ ls, res = Sum.inr ls ∧ I m_self f_Model_wrong = -1 ∧ I m_self f_Model_at = nI (min sz 76) ∧ lnM ls I ∧ n = ls.length)
theorem X12_board_54 {cd : Nat → Nat} {sz : Nat} (J : HJ) (I0 : HI) (ht0 : tcM cd sz I0) {kx : Int32 → HI → HJ → Option (Int32 × HI × HJ)} {Q : Int32 × HI × HJ → Prop} (res : Nat ⊕ (List Ln)) (hx : ∀ n I, Sm mlW I0 I → enM res sz n I → Ok (kx (nI n) I J) Q) : ∀ (K PK a wd lm : Nat) (acc : List Ln) (I : HI), min sz 76 + 1 ≤ a + K → K < PK → a ≤ min sz 76 → 2 * acc.length ≤ a → 2 ≤ wd ∧ wd ≤ 10 → lm ≤ 60 → Sm mlW I0 I → SM (Sum.inr a) I → lnM acc I → rdS cd (min sz 76) K a wd lm acc = res → Ok (F_X12_board_L54 kx PK (nI acc.length) (nI wd) (nI lm) 1 I J) Q := by
  intro K
  induction K with
  | zero => intro PK a wd lm acc I h1 h2 h3; omega
  | succ K ih =>
    intro PK a wd lm acc I h1 h2 h3 h4 hwd hlm s0 hs hn hres
    obtain ⟨PK, rfl⟩ : ∃ P', PK = P' + 2 := ⟨PK - 2, by omega⟩
    have htk : ∀ I', Sm mlW I0 I' → tcM cd sz I' := fun I' s => ht0.keep (Ag.of s (by decide))
    have ht := htk I s0
    obtain ⟨ha, hw, hat⟩ := hs
    rw [rdS_s] at hres
    have after : ∀ (n3 : Nat ⊕ (Nat × Nat)) (mkl : Nat → Ln) (y32 y33 : Int32) (I2 : HI), lnS cd (min sz 76) wd lm a = bdS n3 (fun n => Sum.inr (mkl n.1, n.2)) → Sm mlW I0 I2 → SM (atS n3) I2 → (∀ v b, n3 = Sum.inr (v, b) → y32 = nI (wdN (mkl v) wd) ∧ y33 = nI (lmN (mkl v) lm) ∧ lnM (acc ++ [mkl v]) I2) → Ok (cl (F_X12_passes (59 : Int32) I2 J) fun r37 I38 J39 => F_X12_board_L54 kx (PK + 1) (nI acc.length + 1) y32 y33 r37 I38 J39) Q := by
      intro n3 mkl y32 y33 I2 hl s2 hsm hc
      have stop : ∀ I', Sm mlW I0 I' → enM res sz (acc.length + 1) I' → Ok (F_X12_board_L54 kx (PK + 1) (nI acc.length + 1) y32 y33 0 I' J) Q := by
        intro I' a1 a2
        rw [F_X12_board_L54, nI_1]
        exact Ok.t rfl (hx _ I' a1 a2)
      cases n3 with
      | inl e =>
        rw [hl] at hres
        simp only [bdS] at hres
        exact Ok.cle (X12_passes_w hsm.1 hsm.2) (stop I2 s2 (Or.inl ⟨e, hsm.1, hres.symm, hsm.2⟩))
      | inr n =>
        obtain ⟨v, b⟩ := n
        obtain ⟨c1, c2, c3⟩ := hc v b rfl
        have hl' : lnS cd (min sz 76) wd lm a = Sum.inr (mkl v, b) := hl
        obtain ⟨g1, g2, g3⟩ := lnS_r (by omega) hlm hl'
        have hnx := ln_next hwd hlm g1
        rw [hl'] at hres
        simp only at hres
        obtain ⟨hb76, hw2, ha2⟩ : b ≤ 76 ∧ I2 m_self f_Model_wrong = -1 ∧ I2 m_self f_Model_at = nI b := hsm
        by_cases cl : min sz 76 ≤ b
        · rw [if_pos cl] at hres
          have hno : isC cd (min sz 76) b 59 = false := decide_eq_false (fun hh => by omega)
          refine Ok.cle (X12_passes_f (c := 59) hb76 (by omega) (htk I2 s2) hw2 ha2 hno) (stop I2 s2 (Or.inr (Or.inr ⟨_, hres.symm, hw2, ?_, c3, by simp⟩)))
          rw [ha2]; congr 1; omega
        · rw [if_neg cl] at hres
          cases hi : isC cd (min sz 76) b 59 with
          | false =>
            rw [hi, if_neg (by decide)] at hres
            exact Ok.cle (X12_passes_f (c := 59) hb76 (by omega) (htk I2 s2) hw2 ha2 hi) (stop I2 s2 (Or.inr (Or.inl ⟨b, by omega, hres.symm, hw2, ha2⟩)))
          | true =>
            rw [hi, if_pos rfl] at hres
            refine Ok.cle (X12_passes_t (c := 59) hb76 (by omega) (htk I2 s2) hw2 ha2 hi) ?_
            have s3 : Sm mnW I2 (ui I2 m_self f_Model_at (nI (b + 1))) := Sm.mi rfl Sm.rf
            have := ih (PK + 1) (b + 1) (wdN (mkl v) wd) (lmN (mkl v) lm) (acc ++ [mkl v]) (ui I2 m_self f_Model_at (nI (b + 1))) (by omega) (by omega) (by omega) (by rw [List.length_append, List.length_singleton]; omega) hnx.1 hnx.2 (Sm.tr (by decide) s2 s3) ⟨by omega, by rw [ui_j (by decide)]; exact hw2, by rw [ui_r]⟩ (fun k hk => by
              obtain ⟨x1, x2, x3, x4⟩ := c3 k hk
              unfold lnEm
              rw [s3 _ _ rfl, s3 _ _ rfl, s3 _ _ rfl, s3 _ _ rfl]
              exact ⟨x1, x2, x3, x4⟩) hres
            rw [List.length_append, List.length_singleton] at this
            rw [c1, c2, nI_1]
            exact this
    rw [F_X12_board_L54]
    refine Ok.f (by decide) (Ok.t hw (Ok.lbv ?_))
    rw [show (4 : Int32) = nI 4 from rfl, n_mul]
    cases c1 : isC cd (min sz 76) a 119 with
    | true =>
      have hlt := (of_decide_eq_true c1).1
      refine Ok.cle (X12_passes_t (c := 119) ha (by omega) ht hw hat c1) (Ok.lbv (Ok.f (by decide) (Ok.bxe (by omega) (by omega) (Ok.lbv ?_))))
      rw [n_cl (by omega)]
      have sI : Sm mlW I (ui (ui I m_self f_Model_at (nI (a + 1))) m_line (4 * acc.length) 0) := Sm.mi rfl (Sm.mi rfl Sm.rf)
      refine Ok.call (X12_number (k := 2) (lo := 2) (hi := 10) (st := Sum.inr (a + 1)) (Or.inr rfl) (by omega) (by omega) _ J (ht.keep (Ag.of sI (by decide))) ⟨by omega, by rw [ui_c (by decide), ui_j (by decide)]; exact hw, by rw [ui_c (by decide), ui_r]⟩) (fun r I83 J84 _ hP => ?_)
      obtain ⟨p1, p2, p3, p4⟩ := hP
      simp only at p1 p2 p3 p4
      subst p1
      rw [show nI (4 * acc.length) + 1 = nI (4 * acc.length + 1) from nI_1 _]
      refine Ok.bxe (by omega) (by omega) (Ok.lbv (Ok.bxe (by omega) (by omega) (Ok.lbv ?_)))
      rw [n_cl (by omega), ui_r, p4]
      have hln : lnS cd (min sz 76) wd lm a = bdS (nuM cd (min sz 76) 2 2 10 (Sum.inr (a + 1))) (fun n => Sum.inr ((0, 0, 0, n.1), n.2)) := by unfold lnS; rw [c1, if_pos rfl]; rfl
      have s83 : Sm mlW I0 I83 := Sm.tr (by decide) (Sm.tr (by decide) s0 sI) p2
      have s85 : Sm [(m_line, none)] I83 (ui I83 m_line (4 * acc.length + 1) (nI (valS (nuM cd (min sz 76) 2 2 10 (Sum.inr (a + 1)))))) := Sm.mi rfl Sm.rf
      refine after _ (fun v => (0, 0, 0, v)) _ _ _ hln (Sm.tr (by decide) s83 s85) (p3.keep (Ag.of s85 (by decide))) (fun v b hv => ?_)
      rw [hv]
      refine ⟨rfl, rfl, hn.ap (fun j hj => ?_) ⟨?_, fun _ => ?_, fun h => absurd h (show ¬ (0 : Nat) = 1 by decide), fun h => absurd h (show ¬ (0 : Nat) = 2 by decide)⟩⟩
      · rw [ui_j (by omega), p2 _ _ rfl, ui_j (by omega), ui_c (by decide)]
      · rw [ui_j (by omega), p2 _ _ rfl, ui_r]; rfl
      · rw [ui_r]; rfl
    | false =>
      refine Ok.cle (X12_passes_f (c := 119) ha (by omega) ht hw hat c1) (Ok.lbv (Ok.t rfl ?_))
      cases c2 : isC cd (min sz 76) a 114 with
      | true =>
        have hlt := (of_decide_eq_true c2).1
        refine Ok.cle (X12_passes_t (c := 114) ha (by omega) ht hw hat c2) (Ok.f (by decide) (Ok.bxe (by omega) (by omega) (Ok.lbv ?_)))
        rw [n_cl (by omega), show (1 : Int32) = nI 1 from rfl, n_sub (by omega)]
        have sI : Sm mlW I (ui (ui I m_self f_Model_at (nI (a + 1))) m_line (4 * acc.length) (nI 1)) := Sm.mi rfl (Sm.mi rfl Sm.rf)
        refine Ok.call (X12_number (k := 1) (lo := 0) (hi := wd - 1) (st := Sum.inr (a + 1)) (Or.inl rfl) (by omega) (by omega) _ J (ht.keep (Ag.of sI (by decide))) ⟨by omega, by rw [ui_c (by decide), ui_j (by decide)]; exact hw, by rw [ui_c (by decide), ui_r]⟩) (fun r I72 J73 _ hP => ?_)
        obtain ⟨p1, p2, p3, p4⟩ := hP
        simp only at p1 p2 p3 p4
        subst p1
        generalize hn1 : nuM cd (min sz 76) 1 0 (wd - 1) (Sum.inr (a + 1)) = n1 at p3 p4
        have s72 : Sm mlW I0 I72 := Sm.tr (by decide) (Sm.tr (by decide) s0 sI) p2
        rw [nI_add, p4]
        refine Ok.bxe (by omega) (by omega) (Ok.lbv ?_)
        rw [n_cl (by omega)]
        have s74 : Sm [(m_line, none)] I72 (ui I72 m_line (4 * acc.length + 1) (nI (valS n1))) := Sm.mi rfl Sm.rf
        have s74' : Sm mlW I0 (ui I72 m_line (4 * acc.length + 1) (nI (valS n1))) := Sm.tr (by decide) s72 s74
        refine Ok.call (X12_need (c := 44) (by omega) _ J73 (htk _ s74') (p3.keep (Ag.of s74 (by decide)))) (fun r2 I75 J76 _ hP => ?_)
        obtain ⟨q1, q2, q3⟩ := hP
        simp only at q1 q2 q3
        subst q1
        have s75 : Sm mlW I0 I75 := Sm.tr (by decide) s74' q2
        refine Ok.call (X12_number (k := 2) (lo := 0) (hi := 4) (Or.inr rfl) (by omega) (by omega) I75 J76 (htk _ s75) q3) (fun r3 I78 J79 _ hP => ?_)
        obtain ⟨w1, w2, w3, w4⟩ := hP
        simp only at w1 w2 w3 w4
        subst w1
        generalize hn2 : nuM cd (min sz 76) 2 0 4 (ndM cd (min sz 76) 44 (atS n1)) = n2 at w3 w4
        have s78 : Sm mlW I0 I78 := Sm.tr (by decide) s75 w2
        rw [show (2 : Int32) = nI 2 from rfl, nI_add, w4]
        refine Ok.bxe (by omega) (by omega) (Ok.lbv ?_)
        rw [n_cl (by omega)]
        have s80 : Sm [(m_line, none)] I78 (ui I78 m_line (4 * acc.length + 2) (nI (valS n2))) := Sm.mi rfl Sm.rf
        refine after n2 (fun v => (1, valS n1, 0, v)) _ _ _ (lnS_ohm c1 c2 hn1.symm hn2.symm) (Sm.tr (by decide) s78 s80) (w3.keep (Ag.of s80 (by decide))) (fun v b hv => ?_)
        rw [hv]
        refine ⟨rfl, rfl, hn.ap (fun j hj => ?_) ⟨?_, fun h => absurd h (show ¬ (1 : Nat) = 0 by decide), fun _ => ⟨?_, ?_⟩, fun h => absurd h (show ¬ (1 : Nat) = 2 by decide)⟩⟩
        · rw [ui_j (by omega), w2 _ _ rfl, q2 _ _ rfl, ui_j (by omega), p2 _ _ rfl, ui_j (by omega), ui_c (by decide)]
        · rw [ui_j (by omega), w2 _ _ rfl, q2 _ _ rfl, ui_j (by omega), p2 _ _ rfl, ui_r]
        · rw [ui_j (by omega), w2 _ _ rfl, q2 _ _ rfl, ui_r]
        · rw [ui_r]; rfl
      | false =>
        refine Ok.cle (X12_passes_f (c := 114) ha (by omega) ht hw hat c2) (Ok.t rfl (Ok.bxe (by omega) (by omega) (Ok.lbv (Ok.lbv ?_))))
        rw [n_cl (by omega)]
        have sI : Sm [(m_line, none)] I (ui I m_line (4 * acc.length) (2 : Int32)) := Sm.mi rfl Sm.rf
        have s43 : Sm mlW I0 (ui I m_line (4 * acc.length) (2 : Int32)) := Sm.tr (by decide) s0 sI
        have go : ∀ (s0' : Nat ⊕ Nat) (I44 : HI), s0' = (if lm = 60 then Sum.inl a else Sum.inr a) → Sm mnW (ui I m_line (4 * acc.length) (2 : Int32)) I44 → SM s0' I44 → Ok (cl (F_X12_number (1 : Int32) (0 : Int32) (nI wd - (1 : Int32)) I44 J) fun r47 I48 J49 => bx (nI (4 * acc.length) + (1 : Int32)) 320 <| lb (ui I48 m_line (Int32.toNatClampNeg (nI (4 * acc.length) + (1 : Int32))) r47) fun I50 => cl (F_X12_need (62 : Int32) I50 J49) fun _ I51 J52 => cl (F_X12_number (1 : Int32) (0 : Int32) (nI wd - (1 : Int32)) I51 J52) fun r53 I54 J55 => bx (nI (4 * acc.length) + (2 : Int32)) 320 <| lb (ui I54 m_line (Int32.toNatClampNeg (nI (4 * acc.length) + (2 : Int32))) r53) fun I56 => lb (fun (I57 : HI) (J58 : HJ) => cl (F_X12_need (42 : Int32) I57 J58) fun _ I60 J61 => cl (F_X12_number (2 : Int32) (1 : Int32) (9 : Int32) I60 J61) fun r62 I63 J64 => bx (nI (4 * acc.length) + (3 : Int32)) 320 <| lb (ui I63 m_line (Int32.toNatClampNeg (nI (4 * acc.length) + (3 : Int32))) r62) fun I65 => cl (F_X12_passes (59 : Int32) I65 J64) fun r37 I38 J39 => F_X12_board_L54 kx (PK + 1) (nI acc.length + 1) (nI wd) (nI lm + 1) r37 I38 J39) fun j59 => if (I56 m_self f_Model_wrong) = (-1 : Int32) then bx (nI (4 * acc.length) + (1 : Int32)) 320 <| bx (nI (4 * acc.length) + (2 : Int32)) 320 <| if (I56 m_line (Int32.toNatClampNeg (nI (4 * acc.length) + (1 : Int32)))) = (I56 m_line (Int32.toNatClampNeg (nI (4 * acc.length) + (2 : Int32)))) then cl (F_X12_fault ((I56 m_self f_Model_at) - (1 : Int32)) I56 J55) fun _ I66 J67 => j59 I66 J67 else j59 I56 J55 else j59 I56 J55) Q := by
          intro s0' I44 hs0 sM hsm
          have s44 : Sm mlW I0 I44 := Sm.tr (by decide) s43 sM
          rw [show (1 : Int32) = nI 1 from rfl, show (2 : Int32) = nI 2 from rfl, show (3 : Int32) = nI 3 from rfl, n_sub (by omega), nI_add, nI_add, nI_add]
          refine Ok.call (X12_number (k := 1) (lo := 0) (hi := wd - 1) (Or.inl rfl) (by omega) (by omega) I44 J (htk _ s44) hsm) (fun r I48 J49 _ hP => ?_)
          obtain ⟨p1, p2, p3, p4⟩ := hP
          simp only at p1 p2 p3 p4
          subst p1
          generalize hn1 : nuM cd (min sz 76) 1 0 (wd - 1) s0' = n1 at p3 p4
          have v1 : valS n1 < 1000 := by
            cases h : n1 with
            | inl e => show (0 : Nat) < 1000; omega
            | inr n =>
              obtain ⟨v, b⟩ := n
              rw [h] at hn1
              cases s0' with
              | inl e => cases hn1
              | inr a' => have := nuS_r (show nuS cd (min sz 76) 1 0 (wd - 1) a' = Sum.inr (v, b) from hn1); show v < 1000; omega
          have s48 : Sm mlW I0 I48 := Sm.tr (by decide) s44 p2
          rw [p4]
          refine Ok.bxe (by omega) (by omega) (Ok.lbv ?_)
          rw [n_cl (a := 4 * acc.length + 1) (by omega)]
          have s50 : Sm [(m_line, none)] I48 (ui I48 m_line (4 * acc.length + 1) (nI (valS n1))) := Sm.mi rfl Sm.rf
          have s50' : Sm mlW I0 (ui I48 m_line (4 * acc.length + 1) (nI (valS n1))) := Sm.tr (by decide) s48 s50
          refine Ok.call (X12_need (c := 62) (by omega) _ J49 (htk _ s50') (p3.keep (Ag.of s50 (by decide)))) (fun r2 I51 J52 _ hP => ?_)
          obtain ⟨q1, q2, q3⟩ := hP
          simp only at q1 q2 q3
          subst q1
          have s51 : Sm mlW I0 I51 := Sm.tr (by decide) s50' q2
          refine Ok.call (X12_number (k := 1) (lo := 0) (hi := wd - 1) (Or.inl rfl) (by omega) (by omega) I51 J52 (htk _ s51) q3) (fun r3 I54 J55 _ hP => ?_)
          obtain ⟨w1, w2, w3, w4⟩ := hP
          simp only at w1 w2 w3 w4
          subst w1
          generalize hn2 : nuM cd (min sz 76) 1 0 (wd - 1) (ndM cd (min sz 76) 62 (atS n1)) = n2 at w3 w4
          have s54 : Sm mlW I0 I54 := Sm.tr (by decide) s51 w2
          rw [w4]
          refine Ok.bxe (by omega) (by omega) (Ok.lbv ?_)
          rw [n_cl (a := 4 * acc.length + 2) (by omega)]
          have s56 : Sm [(m_line, none)] I54 (ui I54 m_line (4 * acc.length + 2) (nI (valS n2))) := Sm.mi rfl Sm.rf
          have s56' : Sm mlW I0 (ui I54 m_line (4 * acc.length + 2) (nI (valS n2))) := Sm.tr (by decide) s54 s56
          have l0 : ui I54 m_line (4 * acc.length + 2) (nI (valS n2)) m_line (4 * acc.length) = nI 2 := by
            rw [ui_j (by omega), w2 _ _ rfl, q2 _ _ rfl, ui_j (by omega), p2 _ _ rfl, sM _ _ rfl, ui_r]; rfl
          have l1 : ui I54 m_line (4 * acc.length + 2) (nI (valS n2)) m_line (4 * acc.length + 1) = nI (valS n1) := by
            rw [ui_j (by omega), w2 _ _ rfl, q2 _ _ rfl, ui_r]
          have l2 : ui I54 m_line (4 * acc.length + 2) (nI (valS n2)) m_line (4 * acc.length + 2) = nI (valS n2) := ui_r
          have lo : ∀ j, j < 4 * acc.length → ui I54 m_line (4 * acc.length + 2) (nI (valS n2)) m_line j = I m_line j := fun j hj => by
            rw [ui_j (by omega), w2 _ _ rfl, q2 _ _ rfl, ui_j (by omega), p2 _ _ rfl, sM _ _ rfl, ui_j (by omega)]
          have w3' := w3.keep (Ag.of s56 (by decide))
          generalize ui I54 m_line (4 * acc.length + 2) (nI (valS n2)) = I56 at s56 s56' l0 l1 l2 lo w3'
          have fin : ∀ I57, Sm mnW I56 I57 → SM (eqM (valS n1) n2) I57 → Ok (cl (F_X12_need (42 : Int32) I57 J55) fun _ I60 J61 => cl (F_X12_number (nI 2) (nI 1) (9 : Int32) I60 J61) fun r62 I63 J64 => bx (nI (4 * acc.length + 3)) 320 <| lb (ui I63 m_line (Int32.toNatClampNeg (nI (4 * acc.length + 3))) r62) fun I65 => cl (F_X12_passes (59 : Int32) I65 J64) fun r37 I38 J39 => F_X12_board_L54 kx (PK + 1) (nI acc.length + nI 1) (nI wd) (nI lm + nI 1) r37 I38 J39) Q := by
            intro I57 sN hsN
            have s57 : Sm mlW I0 I57 := Sm.tr (by decide) s56' sN
            refine Ok.call (X12_need (c := 42) (by omega) I57 J55 (htk _ s57) hsN) (fun r4 I60 J61 _ hP => ?_)
            obtain ⟨x1, x2, x3⟩ := hP
            simp only at x1 x2 x3
            subst x1
            have s60 : Sm mlW I0 I60 := Sm.tr (by decide) s57 x2
            refine Ok.call (X12_number (k := 2) (lo := 1) (hi := 9) (Or.inr rfl) (by omega) (by omega) I60 J61 (htk _ s60) x3) (fun r5 I63 J64 _ hP => ?_)
            obtain ⟨y1, y2, y3, y4⟩ := hP
            simp only at y1 y2 y3 y4
            subst y1
            generalize hn3 : nuM cd (min sz 76) 2 1 9 (ndM cd (min sz 76) 42 (eqM (valS n1) n2)) = n3 at y3 y4
            have s63 : Sm mlW I0 I63 := Sm.tr (by decide) s60 y2
            rw [y4]
            refine Ok.bxe (by omega) (by omega) (Ok.lbv ?_)
            rw [n_cl (by omega)]
            have s65 : Sm [(m_line, none)] I63 (ui I63 m_line (4 * acc.length + 3) (nI (valS n3))) := Sm.mi rfl Sm.rf
            refine after n3 (fun v => (2, valS n1, valS n2, v)) _ _ _ (lnS_lamp c1 c2 hs0 hn1.symm hn2.symm hn3.symm) (Sm.tr (by decide) s63 s65) (y3.keep (Ag.of s65 (by decide))) (fun v b hv => ?_)
            rw [hv]
            refine ⟨rfl, by rw [nI_add]; rfl, hn.ap (fun j hj => ?_) ⟨?_, fun h => absurd h (show ¬ (2 : Nat) = 0 by decide), fun h => absurd h (show ¬ (2 : Nat) = 1 by decide), fun _ => ⟨?_, ?_, ?_⟩⟩⟩
            · rw [ui_j (by omega), y2 _ _ rfl, x2 _ _ rfl, sN _ _ rfl]; exact lo j hj
            · rw [ui_j (by omega), y2 _ _ rfl, x2 _ _ rfl, sN _ _ rfl]; exact l0
            · rw [ui_j (by omega), y2 _ _ rfl, x2 _ _ rfl, sN _ _ rfl]; exact l1
            · rw [ui_j (by omega), y2 _ _ rfl, x2 _ _ rfl, sN _ _ rfl]; exact l2
            · rw [ui_r]; rfl
          refine Ok.lbv ?_
          cases h2 : n2 with
          | inl e =>
            rw [h2] at w3'
            obtain ⟨f1, f2⟩ : e ≤ 80 ∧ I56 m_self f_Model_wrong = nI e := w3'
            refine Ok.f (by rw [f2]; exact n_ne1l (by omega)) (fin I56 Sm.rf ?_)
            rw [h2]; exact ⟨f1, f2⟩
          | inr nn =>
            obtain ⟨y, b2⟩ := nn
            have hy1 : y < 1000 ∧ 1 ≤ b2 := by
              rw [h2] at hn2
              unfold nuM at hn2
              cases hd : ndM cd (min sz 76) 62 (atS n1) with
              | inl e => rw [hd] at hn2; cases hn2
              | inr a' => rw [hd] at hn2; have := nuS_r (show nuS cd (min sz 76) 1 0 (wd - 1) a' = Sum.inr (y, b2) from hn2); omega
            rw [h2] at w3' l2
            obtain ⟨f0, f1, f2⟩ : b2 ≤ 76 ∧ I56 m_self f_Model_wrong = -1 ∧ I56 m_self f_Model_at = nI b2 := w3'
            have l2' : I56 m_line (4 * acc.length + 2) = nI y := l2
            refine Ok.t f1 (Ok.bxe (by omega) (by omega) (Ok.bxe (by omega) (by omega) ?_))
            rw [l1, l2', f2, n_sub (by omega)]
            by_cases ce : valS n1 = y
            · refine Ok.t (by rw [ce]) (Ok.cle (X12_fault_n f1) (fin _ (Sm.mi rfl Sm.rf) ?_))
              rw [h2]
              show SM (if valS n1 = y then Sum.inl (b2 - 1) else Sum.inr b2) _
              rw [if_pos ce]
              exact ⟨by omega, by rw [ui_r]⟩
            · refine Ok.f (by rw [n_eq] <;> omega) (fin I56 Sm.rf ?_)
              rw [h2]
              show SM (if valS n1 = y then Sum.inl (b2 - 1) else Sum.inr b2) _
              rw [if_neg ce]
              exact ⟨f0, f1, f2⟩
        by_cases c60 : lm = 60
        · refine Ok.t (show nI lm = (60 : Int32) from by rw [c60]; rfl) ?_
          rw [sI m_self f_Model_at rfl, hat]
          refine Ok.cle (X12_fault_n (by rw [sI _ _ rfl]; exact hw)) ?_
          exact go (Sum.inl a) _ (by rw [if_pos c60]) (Sm.mi rfl Sm.rf) ⟨by omega, by rw [ui_r]⟩
        · refine Ok.f (show ¬ nI lm = (60 : Int32) from fun e => c60 (by have e' : nI lm = nI 60 := e; rw [n_eq (by omega) (by omega)] at e'; exact e')) ?_
          exact go (Sum.inr a) _ (by rw [if_neg c60]) Sm.rf ⟨ha, by rw [sI _ _ rfl]; exact hw, by rw [sI _ _ rfl]; exact hat⟩

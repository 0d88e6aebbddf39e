/-! LAYER 2: board: the reference takes the lines -/
def clrM' (I : HI) (J : HJ) : Prop := I m_self f_Model_shownHigh = 0 ∧ I m_self f_Model_shownLow = 0 ∧ I m_self f_Model_seenMany = 0 ∧ I m_self f_Model_testMany = 0 ∧ ∀ i, i < 4 → J m_pictures i = 0
abbrev bmW : Pl := [(m_self, some f_Model_lamps), (m_ohm, none), (m_lampFrom, none), (m_lampTo, none), (m_volts, none)]
theorem X12_take {B : Bd} (hB : OkB B) {l : Ln} (hl : lnOk (bW B) (bL B) l) {k nb : Nat} (hk : k < 76) (I : HI) (J : HJ) (hM : MB B I) (hE : lnEm l k I) (hb : I m_self f_Model_boards = nI nb) : Ok (F_X12_take (nI (4 * k)) I J) (fun q => MB (apL B l) q.2.1 ∧ q.2.1 m_self f_Model_boards = nI (nb + (if l.1 = 0 then 1 else 0)) ∧ (l.1 = 0 → clrM' q.2.1 q.2.2) ∧ (l.1 ≠ 0 → Sm bmW I q.2.1 ∧ q.2.2 = J)) := by
  obtain ⟨b1, b2, b3, b4, b5, b6, b7, b8, b9, b10⟩ := hB
  obtain ⟨x1, x2, x3, x4, x5, x6, x7⟩ := hM
  obtain ⟨e1, e2, e3, e4⟩ := hE
  unfold F_X12_take
  refine Ok.bxe (by omega) (by omega) ?_
  rw [show (1 : Int32) = nI 1 from rfl, show (2 : Int32) = nI 2 from rfl, show (3 : Int32) = nI 3 from rfl, nI_add, nI_add, nI_add, n_cl (a := 4 * k) (by omega), e1]
  rcases ln_cases hl with ⟨x, y, v, rfl, h1, h2⟩ | ⟨x, y, v, rfl, h1, h2⟩ | ⟨x, y, v, rfl, h1, h2, h3, h4, h5, h6⟩
  · refine Ok.f (show ¬ nI 0 = nI 1 by decide) (Ok.bxe (by omega) (by omega) (Ok.f (show ¬ nI 0 = nI 2 by decide) (Ok.bxe (by omega) (by omega) (Ok.lbv ?_))))
    rw [n_cl (a := 4 * k + 1) (by omega), e2 rfl]
    refine Ok.lbv (Ok.lbv (Ok.lbv (Ok.lbv (Ok.lbv ?_))))
    obtain ⟨I19, hI19⟩ : ∃ I19, I19 = ui (ui (ui (ui (ui (ui I m_self f_Model_wide (nI v)) m_self f_Model_lamps 0) m_self f_Model_shownHigh 0) m_self f_Model_shownLow 0) m_self f_Model_seenMany 0) m_self f_Model_testMany 0 := ⟨_, rfl⟩
    rw [← hI19]
    have s19 : Sm [(m_self, some f_Model_wide), (m_self, some f_Model_lamps), (m_self, some f_Model_shownHigh), (m_self, some f_Model_shownLow), (m_self, some f_Model_seenMany), (m_self, some f_Model_testMany)] I I19 := by rw [hI19]; exact Sm.mi rfl (Sm.mi rfl (Sm.mi rfl (Sm.mi rfl (Sm.mi rfl (Sm.mi rfl Sm.rf)))))
    have lp : ∀ K i, i ≤ 4 → 4 - i < K → ∀ J', (∀ i', i' < i → J' m_pictures i' = 0) → Ok (F_X12_take_L147 I19 (fun (J21 : HJ) => lb (ui I19 m_self f_Model_boards ((I19 m_self f_Model_boards) + nI 1)) fun I22 => some ((), I22, J21)) K (nI i) J') (fun q => MB (apL B (0, x, y, v)) q.2.1 ∧ q.2.1 m_self f_Model_boards = nI (nb + 1) ∧ ((0 : Nat) = 0 → clrM' q.2.1 q.2.2) ∧ ((0 : Nat) ≠ 0 → Sm bmW I q.2.1 ∧ q.2.2 = J)) := by
      refine up ?_ ?_
      · intro K J' hp
        rw [F_X12_take_L147]
        refine Ok.t (by decide) (Ok.lbv ?_)
        rw [s19 m_self f_Model_boards rfl, hb, nI_add]
        have s22 : Sm [(m_self, some f_Model_boards)] I19 (ui I19 m_self f_Model_boards (nI (nb + 1))) := Sm.mi rfl Sm.rf
        refine Ok.mk ⟨⟨?_, ?_, ?_, ?_, ?_, fun w hw => ?_, fun l hl => by rw [apW] at hl; exact absurd hl (Nat.not_lt_zero _)⟩, ?_, fun _ => ⟨?_, ?_, ?_, ?_, hp⟩, fun h => absurd rfl h⟩ <;> dsimp only
        · rw [s22 _ _ rfl, hI19, ui_j (by decide), ui_j (by decide), ui_j (by decide), ui_j (by decide), ui_j (by decide), ui_r, apW]; rfl
        · rw [s22 _ _ rfl, hI19, ui_j (by decide), ui_j (by decide), ui_j (by decide), ui_j (by decide), ui_r, apW]; rfl
        · rw [s22 _ _ rfl, s19 _ _ rfl, apW]; exact x3
        · rw [s22 _ _ rfl, s19 _ _ rfl, apW]; exact x4
        · rw [s22 _ _ rfl, s19 _ _ rfl, apW]; exact x5
        · rw [s22 _ _ rfl, s19 _ _ rfl, apW]; exact x6 w hw
        · rw [ui_r]
        · rw [s22 _ _ rfl, hI19, ui_j (by decide), ui_j (by decide), ui_j (by decide), ui_r]
        · rw [s22 _ _ rfl, hI19, ui_j (by decide), ui_j (by decide), ui_r]
        · rw [s22 _ _ rfl, hI19, ui_j (by decide), ui_r]
        · rw [s22 _ _ rfl, hI19, ui_r]
      · intro K i hi ih J' hp
        rw [F_X12_take_L147]
        refine Ok.f (show ¬ (4 : Int32) ≤ nI i from (by rw [n_le (by omega) (by omega)]; omega : ¬ nI 4 ≤ nI i)) (Ok.bxe (by omega) (by omega) (Ok.lbv ?_))
        rw [n_cl (by omega), nI_1]
        refine ih _ (fun i' hi' => ?_)
        rw [uj_s]
        by_cases c : i' = i
        · rw [if_pos c]
        · rw [if_neg c]; exact hp i' (by omega)
    exact lp bgf 0 (Nat.zero_le _) (by unfold bgf; omega) J (fun i' h => absurd h (Nat.not_lt_zero _))
  · obtain ⟨g1, g2⟩ := e3 rfl
    have g1' : I m_line (4 * k + 1) = nI x := g1
    have g2' : I m_line (4 * k + 2) = nI v := g2
    refine Ok.t rfl (Ok.bxe (by omega) (by omega) (Ok.bxe (by omega) (by omega) ?_))
    rw [n_cl (a := 4 * k + 1) (by omega), n_cl (a := 4 * k + 2) (by omega), g1', g2']
    refine Ok.bxe (by omega) (by omega) (Ok.lbv ?_)
    rw [n_cl (by omega), apO]
    have sK : Sm [(m_ohm, none)] I (ui I m_ohm x (nI v)) := Sm.mi rfl Sm.rf
    refine Ok.mk ⟨⟨?_, ?_, ?_, ?_, ?_, fun w hw => ?_, fun l hl => ?_⟩, ?_, fun h => absurd h (show ¬ (1 : Nat) = 0 by decide), fun _ => ⟨Sm.mi rfl Sm.rf, rfl⟩⟩ <;> dsimp only
    · rw [sK _ _ rfl]; exact x1
    · rw [sK _ _ rfl]; exact x2
    · rw [sK _ _ rfl]; exact x3
    · rw [sK _ _ rfl]; exact x4
    · rw [sK _ _ rfl]; exact x5
    · show _ = nI (ub B 1 x v 1 w)
      rw [ui_s, ub_at]
      by_cases c : w = x
      · rw [if_pos c, if_pos ⟨rfl, c⟩]
      · rw [if_neg c, if_neg (fun hh => c hh.2)]; exact x6 w hw
    · rw [sK _ _ rfl, sK _ _ rfl, sK _ _ rfl]; exact x7 l hl
    · rw [sK _ _ rfl, hb]; rfl
  · obtain ⟨g1, g2, g3⟩ := e4 rfl
    have g1' : I m_line (4 * k + 1) = nI x := g1
    have g2' : I m_line (4 * k + 2) = nI y := g2
    have g3' : I m_line (4 * k + 3) = nI v := g3
    refine Ok.f (show ¬ nI 2 = nI 1 by decide) (Ok.bxe (by omega) (by omega) (Ok.t rfl (Ok.bxe (by omega) (by omega) ?_)))
    rw [x2]
    refine Ok.bxe (by omega) (by omega) (Ok.lbv ?_)
    rw [n_cl (a := bL B) (by omega), n_cl (a := 4 * k + 1) (by omega), g1']
    refine Ok.bxe (by omega) (by omega) ?_
    rw [ui_c (show m_self ≠ m_lampFrom by decide), x2]
    refine Ok.bxe (by omega) (by omega) (Ok.lbv ?_)
    rw [n_cl (a := bL B) (by omega), n_cl (a := 4 * k + 2) (by omega), ui_c (show m_line ≠ m_lampFrom by decide), g2']
    refine Ok.bxe (by omega) (by omega) ?_
    rw [ui_c (show m_self ≠ m_lampTo by decide), ui_c (show m_self ≠ m_lampFrom by decide), x2]
    refine Ok.bxe (by omega) (by omega) (Ok.lbv (Ok.lbv ?_))
    rw [n_cl (a := bL B) (by omega), n_cl (a := 4 * k + 3) (by omega), ui_c (show m_line ≠ m_lampTo by decide), ui_c (show m_line ≠ m_lampFrom by decide), g3', ui_c (show m_self ≠ m_volts by decide), ui_c (show m_self ≠ m_lampTo by decide), ui_c (show m_self ≠ m_lampFrom by decide), x2, nI_add]
    obtain ⟨I8, p1⟩ : ∃ I8, I8 = ui (ui (ui (ui I m_lampFrom (bL B) (nI x)) m_lampTo (bL B) (nI y)) m_volts (bL B) (nI v)) m_self f_Model_lamps (nI (bL B + 1)) := ⟨_, rfl⟩
    rw [← p1]
    have sI : Sm [(m_self, some f_Model_lamps), (m_lampFrom, none), (m_lampTo, none), (m_volts, none)] I I8 := by rw [p1]; exact Sm.mi rfl (Sm.mi rfl (Sm.mi rfl (Sm.mi rfl Sm.rf)))
    rw [apA]
    refine Ok.mk ⟨⟨?_, ?_, ?_, ?_, ?_, fun w hw => ?_, fun l hl => ⟨?_, ?_, ?_⟩⟩, ?_, fun h => absurd h (show ¬ (2 : Nat) = 0 by decide), fun _ => ⟨Sm.tr (by decide) Sm.rf sI, rfl⟩⟩ <;> dsimp only
    · rw [sI _ _ rfl]; exact x1
    · rw [p1, ui_r]; rfl
    · rw [sI _ _ rfl]; exact x3
    · rw [sI _ _ rfl]; exact x4
    · rw [sI _ _ rfl]; exact x5
    · rw [sI _ _ rfl]; exact x6 w hw
    · have hl' : l < bL B + 1 := hl
      show I8 m_lampFrom l = nI (ub (ub (ub (ub B 2 (bL B) x) 3 (bL B) y) 4 (bL B) v) 0 1 (bL B + 1) 2 l)
      rw [p1, ui_c (by decide), ui_c (by decide), ui_c (by decide), ui_s, ub_c (by decide), ub_c (by decide), ub_c (by decide), ub_at]
      by_cases c : l = bL B
      · rw [if_pos c, if_pos ⟨rfl, c⟩]
      · rw [if_neg c, if_neg (fun hh => c hh.2)]; exact (x7 l (by omega)).1
    · have hl' : l < bL B + 1 := hl
      show I8 m_lampTo l = nI (ub (ub (ub (ub B 2 (bL B) x) 3 (bL B) y) 4 (bL B) v) 0 1 (bL B + 1) 3 l)
      rw [p1, ui_c (by decide), ui_c (by decide), ui_s, ui_c (by decide), ub_c (by decide), ub_c (by decide), ub_at, ub_c (by decide)]
      by_cases c : l = bL B
      · rw [if_pos c, if_pos ⟨rfl, c⟩]
      · rw [if_neg c, if_neg (fun hh => c hh.2)]; exact (x7 l (by omega)).2.1
    · have hl' : l < bL B + 1 := hl
      show I8 m_volts l = nI (ub (ub (ub (ub B 2 (bL B) x) 3 (bL B) y) 4 (bL B) v) 0 1 (bL B + 1) 4 l)
      rw [p1, ui_c (by decide), ui_s, ui_c (by decide), ui_c (by decide), ub_c (by decide), ub_at, ub_c (by decide), ub_c (by decide)]
      by_cases c : l = bL B
      · rw [if_pos c, if_pos ⟨rfl, c⟩]
      · rw [if_neg c, if_neg (fun hh => c hh.2)]; exact (x7 l (by omega)).2.2
    · rw [sI _ _ rfl, hb]; rfl
/-- lines that hold, one behind the other -/
def chL : Nat → Nat → List Ln → Prop
  | _, _, [] => True
  | wd, lm, l :: R => lnOk wd lm l ∧ chL (wdN l wd) (lmN l lm) R
def cwL : List Ln → Nat
  | [] => 0
  | l :: R => (if l.1 = 0 then 1 else 0) + cwL R
theorem cwL_ap : ∀ (P : List Ln) (l : Ln), cwL (P ++ [l]) = cwL P + (if l.1 = 0 then 1 else 0)
  | [], l => by simp [cwL]
  | p :: P, l => by
    have := cwL_ap P l
    simp only [List.cons_append, cwL]
    omega
theorem cwL_le : ∀ (P : List Ln), cwL P ≤ P.length
  | [] => Nat.le_refl _
  | p :: P => by
    have := cwL_le P
    simp only [cwL, List.length_cons]
    split <;> omega
theorem rdS_ch {cd : Nat → Nat} {lim : Nat} : ∀ (K a wd lm : Nat) (acc ls : List Ln), 2 ≤ wd ∧ wd ≤ 10 → lm ≤ 60 → a ≤ lim → 2 * acc.length ≤ a → rdS cd lim K a wd lm acc = Sum.inr ls → ∃ R, ls = acc ++ R ∧ chL wd lm R ∧ 2 * ls.length ≤ lim
  | 0, a, wd, lm, acc, ls, _, _, _, _, h => by cases h
  | K+1, a, wd, lm, acc, ls, hwd, hlm, ha, h2, h => by
    rw [rdS_s] at h
    cases hl : lnS cd lim wd lm a with
    | inl e' => rw [hl] at h; cases h
    | inr lb =>
      obtain ⟨l, b⟩ := lb
      obtain ⟨g1, g2, g3⟩ := lnS_r (by omega) hlm hl
      have hnx := ln_next hwd hlm g1
      rw [hl] at h
      simp only at h
      by_cases c : lim ≤ b
      · rw [if_pos c] at h
        injection h with h
        refine ⟨[l], h.symm, ⟨g1, trivial⟩, ?_⟩
        rw [← h, List.length_append, List.length_singleton]; omega
      · rw [if_neg c] at h
        by_cases d : isC cd lim b 59 = true
        · rw [if_pos d] at h
          obtain ⟨R, r1, r2, r3⟩ := rdS_ch K (b + 1) _ _ _ ls hnx.1 hnx.2 (by omega) (by rw [List.length_append, List.length_singleton]; omega) h
          exact ⟨l :: R, by rw [r1]; simp, ⟨g1, r2⟩, r3⟩
        · rw [if_neg d] at h; cases h

/-! LAYER 2: board: the lines taken -/
def apL (B : Bd) (l : Ln) : Bd := if l.1 = 0 then ub (ub B 0 0 l.2.2.2) 0 1 0 else if l.1 = 1 then ub B 1 l.2.1 l.2.2.2 else ub (ub (ub (ub B 2 (bL B) l.2.1) 3 (bL B) l.2.2.1) 4 (bL B) l.2.2.2) 0 1 (bL B + 1)
theorem apW (B : Bd) (x y v : Nat) : apL B (0, x, y, v) = ub (ub B 0 0 v) 0 1 0 := if_pos rfl
theorem apO (B : Bd) (x y v : Nat) : apL B (1, x, y, v) = ub B 1 x v := rfl
theorem apA (B : Bd) (x y v : Nat) : apL B (2, x, y, v) = ub (ub (ub (ub B 2 (bL B) x) 3 (bL B) y) 4 (bL B) v) 0 1 (bL B + 1) := rfl
theorem ub_at (B : Bd) (c i v a j : Nat) : ub B c i v a j = if a = c ∧ j = i then v else B a j := rfl
theorem ln_cases {wd lm : Nat} {l : Ln} (h : lnOk wd lm l) : (∃ x y v, l = (0, x, y, v) ∧ 2 ≤ v ∧ v ≤ 10) ∨ (∃ x y v, l = (1, x, y, v) ∧ x < wd ∧ v ≤ 4) ∨ (∃ x y v, l = (2, x, y, v) ∧ lm < 60 ∧ x < wd ∧ y < wd ∧ x ≠ y ∧ 1 ≤ v ∧ v ≤ 9) := by
  obtain ⟨k, x, y, v⟩ := l
  rcases h with ⟨h1, h2, h3⟩ | ⟨h1, h2, h3⟩ | ⟨h1, h2, h3, h4, h5, h6, h7⟩ <;> simp only at h1 <;> subst h1
  · exact Or.inl ⟨x, y, v, rfl, h2, h3⟩
  · exact Or.inr (Or.inl ⟨x, y, v, rfl, h2, h3⟩)
  · exact Or.inr (Or.inr ⟨x, y, v, rfl, h2, h3, h4, h5, h6, h7⟩)
theorem apL_WL {B : Bd} {l : Ln} (h : lnOk (bW B) (bL B) l) : bW (apL B l) = wdN l (bW B) ∧ bL (apL B l) = lmN l (bL B) := by
  rcases ln_cases h with ⟨x, y, v, rfl, _⟩ | ⟨x, y, v, rfl, _⟩ | ⟨x, y, v, rfl, _⟩
  · rw [apW]; exact ⟨rfl, rfl⟩
  · rw [apO]; exact ⟨rfl, rfl⟩
  · rw [apA]; exact ⟨rfl, rfl⟩
theorem apL_ok {B : Bd} (hB : OkB B) {l : Ln} (h : lnOk (bW B) (bL B) l) : OkB (apL B l) := by
  obtain ⟨b1, b2, b3, b4, b5, b6, b7, b8, b9, b10⟩ := hB
  rcases ln_cases h with ⟨x, y, v, rfl, h1, h2⟩ | ⟨x, y, v, rfl, h1, h2⟩ | ⟨x, y, v, rfl, h1, h2, h3, h4, h5, h6⟩
  · rw [apW]
    exact ⟨h1, h2, (show (0 : Nat) ≤ 60 by omega), b4, b5, b6, b7, b8, b9, fun l hl => absurd hl (Nat.not_lt_zero _)⟩
  · rw [apO]
    refine ⟨b1, b2, b3, b4, b5, b6, b7, b8, fun w hw => ?_, b10⟩
    show ub B 1 x v 1 w ≤ 4
    rw [ub_at]
    split
    · exact h2
    · exact b9 w hw
  · rw [apA]
    refine ⟨b1, b2, (show bL B + 1 ≤ 60 by omega), b4, b5, b6, b7, b8, b9, fun l hl => ?_⟩
    have hl' : l < bL B + 1 := hl
    have e2 : ∀ l, ub (ub (ub (ub B 2 (bL B) x) 3 (bL B) y) 4 (bL B) v) 0 1 (bL B + 1) 2 l = if l = bL B then x else bA B l := fun l => by
      rw [ub_c (by decide), ub_c (by decide), ub_c (by decide), ub_at]; simp
    have e3 : ∀ l, ub (ub (ub (ub B 2 (bL B) x) 3 (bL B) y) 4 (bL B) v) 0 1 (bL B + 1) 3 l = if l = bL B then y else bG B l := fun l => by
      rw [ub_c (by decide), ub_c (by decide), ub_at, ub_c (by decide)]; simp
    have e4 : ∀ l, ub (ub (ub (ub B 2 (bL B) x) 3 (bL B) y) 4 (bL B) v) 0 1 (bL B + 1) 4 l = if l = bL B then v else bV B l := fun l => by
      rw [ub_c (by decide), ub_at, ub_c (by decide), ub_c (by decide)]; simp
    show ub (ub (ub (ub B 2 (bL B) x) 3 (bL B) y) 4 (bL B) v) 0 1 (bL B + 1) 2 l < bW B ∧ ub (ub (ub (ub B 2 (bL B) x) 3 (bL B) y) 4 (bL B) v) 0 1 (bL B + 1) 3 l < bW B ∧ ub (ub (ub (ub B 2 (bL B) x) 3 (bL B) y) 4 (bL B) v) 0 1 (bL B + 1) 2 l ≠ ub (ub (ub (ub B 2 (bL B) x) 3 (bL B) y) 4 (bL B) v) 0 1 (bL B + 1) 3 l ∧ 1 ≤ ub (ub (ub (ub B 2 (bL B) x) 3 (bL B) y) 4 (bL B) v) 0 1 (bL B + 1) 4 l ∧ ub (ub (ub (ub B 2 (bL B) x) 3 (bL B) y) 4 (bL B) v) 0 1 (bL B + 1) 4 l ≤ 9
    rw [e2, e3, e4]
    by_cases c : l = bL B
    · rw [if_pos c, if_pos c, if_pos c]; exact ⟨h2, h3, h4, h5, h6⟩
    · rw [if_neg c, if_neg c, if_neg c]; exact b10 l (by omega)
def clrX (I : HI) (J : HJ) : Prop := I x_notes f_Notes_high = 0 ∧ I x_notes f_Notes_low = 0 ∧ I x_notes f_Notes_seenSize = 0 ∧ I x_plan f_Plan_tests = 0 ∧ I x_kept_0 f_Kept_full = 0 ∧ I x_kept_1 f_Kept_full = 0 ∧ ∀ i, i < 4 → J x_notes_pictures i = 0
abbrev bdW : Pl := [(x_board, some f_Board_lamps), (x_board_ohms, none), (x_board_from, none), (x_board_goal, none), (x_board_volts, none)]
abbrev bdV : Pl := [(x_board_out, none), (x_board_into, none)]
theorem X11_takeLine {B : Bd} (hB : OkB B) {l : Ln} (hl : lnOk (bW B) (bL B) l) {k : Nat} (hk : k < 76) (I : HI) (J : HJ) (hX : XB B I J) (hE : lnE l k I) : Ok (F_X11_takeLine (nI k) I J) (fun q => XB (apL B l) q.2.1 q.2.2 ∧ (l.1 = 0 → clrX q.2.1 q.2.2) ∧ (l.1 ≠ 0 → Sm bdW I q.2.1 ∧ Sm bdV J q.2.2)) := by
  have hok := apL_ok hB hl
  obtain ⟨b1, b2, b3, b4, b5, b6, b7, b8, b9, b10⟩ := hB
  obtain ⟨x1, x2, x3, x4, x5, x6, x7, x8⟩ := hX
  obtain ⟨e1, e2, e3, e4⟩ := hE
  unfold F_X11_takeLine
  refine Ok.bxe (by omega) (by omega) (Ok.lbv (Ok.bxe (by omega) (by omega) (Ok.lbv ?_)))
  rw [n_cl (by omega), e1, e2]
  rcases ln_cases hl with ⟨x, y, v, rfl, h1, h2⟩ | ⟨x, y, v, rfl, h1, h2⟩ | ⟨x, y, v, rfl, h1, h2, h3, h4, h5, h6⟩
  · refine Ok.t rfl ?_
    have hstart : Ok (F_X0_startAnew (nI v) I J) (fun q => XB (apL B (0, x, y, v)) q.2.1 q.2.2) := by
      unfold F_X0_startAnew
      refine Ok.lbv (Ok.lbv ?_)
      obtain ⟨I4, hI4⟩ : ∃ I4, I4 = ui (ui I x_board f_Board_wide (nI v)) x_board f_Board_lamps 0 := ⟨_, rfl⟩
      rw [← hI4]
      have s4 : Sm [(x_board, some f_Board_wide), (x_board, some f_Board_lamps)] I I4 := by rw [hI4]; exact Sm.mi rfl (Sm.mi rfl Sm.rf)
      have hl0 : I4 x_board f_Board_lamps = nI (bL (apL B (0, x, y, v))) := by rw [hI4, ui_r, apW]; rfl
      refine Ok.call (X0_rewire (B := apL B (0, x, y, v)) (by rw [apW]; exact (show (0 : Nat) ≤ 60 by omega)) (fun l hl => by rw [apW] at hl; exact absurd hl (Nat.not_lt_zero _)) I4 J hl0 (fun l hl => by rw [apW] at hl; exact absurd hl (Nat.not_lt_zero _))) (fun r I5 J6 _ hP => ?_)
      obtain ⟨p1, p2⟩ := hP
      simp only at p1 p2
      subst p1
      refine Ok.mk ⟨?_, hl0, ?_, ?_, ?_, fun w hw => ?_, fun l hl => by rw [apW] at hl; exact absurd hl (Nat.not_lt_zero _), p2⟩ <;> dsimp only
      · rw [hI4, ui_j (by decide), ui_r, apW]; rfl
      · rw [s4 _ _ rfl, apW]; exact x3
      · rw [s4 _ _ rfl, apW]; exact x4
      · rw [s4 _ _ rfl, apW]; exact x5
      · rw [s4 _ _ rfl, apW]; exact x6 w hw
    refine Ok.call hstart (fun r I12 J13 _ hX12 => ?_)
    simp only at hX12
    have hclr : Ok (F_X3_clear_25 I12 J13) (fun q => q.2.1 x_notes f_Notes_high = 0 ∧ q.2.1 x_notes f_Notes_low = 0 ∧ q.2.1 x_notes f_Notes_seenSize = 0 ∧ ∀ i, i < 4 → q.2.2 x_notes_pictures i = 0) := by
      unfold F_X3_clear_25
      refine Ok.lbv (Ok.lbv (Ok.lbv (Ok.call (fl_x_notes_pictures 0 _ J13) (fun r I7 J8 _ hP => ?_))))
      obtain ⟨p1, p2, p3⟩ := hP
      simp only at p1 p2 p3
      subst p1
      refine Ok.mk ⟨?_, ?_, ?_, p2⟩ <;> dsimp only
      · rw [ui_j (by decide), ui_j (by decide), ui_r]
      · rw [ui_j (by decide), ui_r]
      · rw [ui_r]
    refine Ok.call (hclr.fo (fr_X3_clear_25 I12 J13)) (fun r2 I14 J15 _ hP => ?_)
    obtain ⟨⟨c1, c2, c3, c4⟩, t1, t2⟩ := hP
    simp only at c1 c2 c3 c4 t1 t2
    refine Ok.lbv ?_
    show Ok (F_X11_takeLine_L50 J15 (999997 + 1 + 1 + 1) 0 _) _
    rw [F_X11_takeLine_L50]
    refine Ok.f (by decide) (Ok.bxe (a := 0) (by omega) (by omega) (Ok.t rfl (Ok.lbv ?_)))
    rw [F_X11_takeLine_L50]
    refine Ok.f (by decide) (Ok.bxe (a := 1) (by omega) (by omega) (Ok.f (by decide) (Ok.lbv ?_)))
    rw [F_X11_takeLine_L50]
    have sK : Sm [(x_plan, some f_Plan_tests), (x_kept_0, some f_Kept_full), (x_kept_1, some f_Kept_full)] I14 (ui (ui (ui I14 x_plan f_Plan_tests 0) x_kept_0 f_Kept_full 0) x_kept_1 f_Kept_full 0) := Sm.mi rfl (Sm.mi rfl (Sm.mi rfl Sm.rf))
    refine Ok.t (by decide) (Ok.mk ⟨hX12.keep (Ag.two t1 sK (by decide) (by decide)) (Ag.of t2 (by decide)), fun _ => ⟨?_, ?_, ?_, ?_, ?_, ?_, c4⟩, fun h => absurd rfl h⟩) <;> dsimp only
    · rw [sK _ _ rfl]; exact c1
    · rw [sK _ _ rfl]; exact c2
    · rw [sK _ _ rfl]; exact c3
    · rw [ui_c (by decide), ui_c (by decide), ui_r]
    · rw [ui_c (by decide), ui_r]
    · rw [ui_r]
  · refine Ok.f (show ¬ nI 1 = nI 0 by decide) (Ok.t rfl (Ok.bxe (by omega) (by omega) ?_))
    rw [e3 (show ¬ (1 : Nat) = 0 by decide)]
    unfold F_X0_resist
    have hw : F_X0_hasWire (nI x) I J = some (nI 1) := (X0_hasWire (by omega) x1).1 ⟨x, h1, rfl⟩
    have hcl : Ok (cp (F_X0_hasWire (nI x) I J) fun r2 => if r2 = 0 then some ((), I, J) else bx (nI x) 10 <| lb (ui I x_board_ohms (Int32.toNatClampNeg (nI x)) (nI v)) fun I3 => some ((), I3, J)) (fun q => q = ((), ui I x_board_ohms x (nI v), J)) := by
      refine Ok.cpe hw (Ok.f (by decide) (Ok.bxe (by omega) (by omega) (Ok.lbv (Ok.mk ?_))))
      rw [n_cl (by omega)]
    refine Ok.call hcl (fun r I10 J11 _ hP => ?_)
    injection hP with hp1 hp2
    injection hp2 with hp2 hp3
    subst hp2 hp3
    rw [apO]
    have sK : Sm [(x_board_ohms, none)] I (ui I x_board_ohms x (nI v)) := Sm.mi rfl Sm.rf
    refine Ok.mk ⟨⟨?_, ?_, ?_, ?_, ?_, fun w hw => ?_, fun l hl => ?_, x8⟩, fun h => absurd h (show ¬ (1 : Nat) = 0 by decide), fun _ => ⟨Sm.mi rfl Sm.rf, Sm.rf⟩⟩ <;> dsimp only
    · rw [sK _ _ rfl]; exact x1
    · rw [sK _ _ rfl]; exact x2
    · rw [sK _ _ rfl]; exact x3
    · rw [sK _ _ rfl]; exact x4
    · rw [sK _ _ rfl]; exact x5
    · show _ = nI (ub B 1 x v 1 w)
      rw [ui_s, ub_at]
      by_cases c : w = x
      · rw [if_pos c, if_pos ⟨rfl, c⟩]
      · rw [if_neg c, if_neg (fun hh => c hh.2)]; exact x6 w hw
    · rw [sK _ _ rfl, sK _ _ rfl, sK _ _ rfl]; exact x7 l hl
  · refine Ok.f (show ¬ nI 2 = nI 0 by decide) (Ok.f (show ¬ nI 2 = nI 1 by decide) (Ok.bxe (by omega) (by omega) (Ok.bxe (by omega) (by omega) ?_)))
    rw [e3 (show ¬ (2 : Nat) = 0 by decide), e4 rfl]
    have hw1 : F_X0_hasWire (nI x) I J = some (nI 1) := (X0_hasWire (by omega) x1).1 ⟨x, h2, rfl⟩
    have hw2 : F_X0_hasWire (nI y) I J = some (nI 1) := (X0_hasWire (by omega) x1).1 ⟨y, h3, rfl⟩
    have hadd : Ok (F_X0_add (nI x) (nI y) (nI v) I J) (fun q => q.2.1 = ui (ui (ui (ui I x_board_from (bL B) (nI x)) x_board_goal (bL B) (nI y)) x_board_volts (bL B) (nI v)) x_board f_Board_lamps (nI (bL B + 1)) ∧ q.2.2 = uj (uj J x_board_out x ((J x_board_out x) ||| (olshl (lN 1) (nI (bL B))))) x_board_into y ((J x_board_into y) ||| (olshl (lN 1) (nI (bL B))))) := by
      unfold F_X0_add
      rw [x2]
      refine Ok.f (show ¬ (60 : Int32) ≤ nI (bL B) from (by rw [n_le (by omega) (by omega)]; omega : ¬ nI 60 ≤ nI (bL B))) (Ok.cpe hw1 (Ok.f (by decide) (Ok.cpe hw2 (Ok.f (by decide) (Ok.bxe (by omega) (by omega) (Ok.lbv ?_))))))
      rw [n_cl (by omega), ui_c (show x_board ≠ x_board_from by decide), x2]
      refine Ok.bxe (by omega) (by omega) (Ok.lbv ?_)
      rw [n_cl (by omega), ui_c (show x_board ≠ x_board_goal by decide), ui_c (show x_board ≠ x_board_from by decide), x2]
      refine Ok.bxe (by omega) (by omega) (Ok.lbv ?_)
      rw [n_cl (by omega), ui_c (show x_board ≠ x_board_volts by decide), ui_c (show x_board ≠ x_board_goal by decide), ui_c (show x_board ≠ x_board_from by decide), x2]
      refine Ok.bxe (by omega) (by omega) (Ok.bxe (by omega) (by omega) (Ok.lbv (Ok.bxe (by omega) (by omega) (Ok.bxe (by omega) (by omega) (Ok.lbv (Ok.lbv (Ok.mk ⟨?_, ?_⟩)))))))
      · dsimp only; rw [nI_1, n_cl (a := bL B) (by omega)]
      · dsimp only
        rw [n_cl (a := y) (by omega), uj_c (show x_board_into ≠ x_board_out by decide)]; rfl
    refine Ok.call hadd (fun r I8 J9 _ hP => ?_)
    obtain ⟨p1, p2⟩ := hP
    simp only at p1 p2
    rw [apA]
    have sI : Sm [(x_board, some f_Board_lamps), (x_board_from, none), (x_board_goal, none), (x_board_volts, none)] I I8 := by rw [p1]; exact Sm.mi rfl (Sm.mi rfl (Sm.mi rfl (Sm.mi rfl Sm.rf)))
    refine Ok.mk ⟨⟨?_, ?_, ?_, ?_, ?_, fun w hw => ?_, fun l hl => ⟨?_, ?_, ?_⟩, fun w hw l => ⟨?_, ?_⟩⟩, fun h => absurd h (show ¬ (2 : Nat) = 0 by decide), fun _ => ⟨Sm.tr (by decide) Sm.rf sI, by dsimp only; rw [p2]; exact Sm.mj rfl (Sm.mj rfl Sm.rf)⟩⟩ <;> dsimp only
    · rw [sI _ _ rfl]; exact x1
    · rw [p1, ui_r]; rfl
    · rw [sI _ _ rfl]; exact x3
    · rw [sI _ _ rfl]; exact x4
    · rw [sI _ _ rfl]; exact x5
    · rw [sI _ _ rfl]; exact x6 w hw
    · have hl' : l < bL B + 1 := hl
      show I8 x_board_from l = nI (ub (ub (ub (ub B 2 (bL B) x) 3 (bL B) y) 4 (bL B) v) 0 1 (bL B + 1) 2 l)
      rw [p1, ui_c (by decide), ui_c (by decide), ui_c (by decide), ui_s, ub_c (by decide), ub_c (by decide), ub_c (by decide), ub_at]
      by_cases c : l = bL B
      · rw [if_pos c, if_pos ⟨rfl, c⟩]
      · rw [if_neg c, if_neg (fun hh => c hh.2)]; exact (x7 l (by omega)).1
    · have hl' : l < bL B + 1 := hl
      show I8 x_board_goal l = nI (ub (ub (ub (ub B 2 (bL B) x) 3 (bL B) y) 4 (bL B) v) 0 1 (bL B + 1) 3 l)
      rw [p1, ui_c (by decide), ui_c (by decide), ui_s, ui_c (by decide), ub_c (by decide), ub_c (by decide), ub_at, ub_c (by decide)]
      by_cases c : l = bL B
      · rw [if_pos c, if_pos ⟨rfl, c⟩]
      · rw [if_neg c, if_neg (fun hh => c hh.2)]; exact (x7 l (by omega)).2.1
    · have hl' : l < bL B + 1 := hl
      show I8 x_board_volts l = nI (ub (ub (ub (ub B 2 (bL B) x) 3 (bL B) y) 4 (bL B) v) 0 1 (bL B + 1) 4 l)
      rw [p1, ui_c (by decide), ui_s, ui_c (by decide), ui_c (by decide), ub_c (by decide), ub_at, ub_c (by decide), ub_c (by decide)]
      by_cases c : l = bL B
      · rw [if_pos c, if_pos ⟨rfl, c⟩]
      · rw [if_neg c, if_neg (fun hh => c hh.2)]; exact (x7 l (by omega)).2.2
    · show bt (J9 x_board_out w) l = (decide (l < bL B + 1) && decide (ub (ub (ub (ub B 2 (bL B) x) 3 (bL B) y) 4 (bL B) v) 0 1 (bL B + 1) 2 l = w))
      rw [p2, uj_c (by decide), ub_c (by decide), ub_c (by decide), ub_c (by decide)]
      have hf : ∀ l', l' < bL B → ub B 2 (bL B) x 2 l' = bA B l' := fun l' hl' => ub_j (by omega)
      have := bt_step (x := J x_board_out w) (i := bL B) (l := l) (w := w) (a := x) (f := fun l => ub B 2 (bL B) x 2 l) (by omega) (fun l' => by
        rw [(x8 w hw l').1]
        by_cases c : l' < bL B
        · rw [hf l' c]
        · simp [c]) (ub_r _ _ _ _)
      rw [← this]
      congr 1
      rw [uj_s]
      by_cases c : w = x
      · rw [if_pos c, if_pos c, c]
      · rw [if_neg c, if_neg c]
    · show bt (J9 x_board_into w) l = (decide (l < bL B + 1) && decide (ub (ub (ub (ub B 2 (bL B) x) 3 (bL B) y) 4 (bL B) v) 0 1 (bL B + 1) 3 l = w))
      rw [p2, ub_c (by decide), ub_c (by decide)]
      have hf : ∀ l', l' < bL B → ub (ub B 2 (bL B) x) 3 (bL B) y 3 l' = bG B l' := fun l' hl' => by rw [ub_j (by omega), ub_c (by decide)]
      have := bt_step (x := J x_board_into w) (i := bL B) (l := l) (w := w) (a := y) (f := fun l => ub (ub B 2 (bL B) x) 3 (bL B) y 3 l) (by omega) (fun l' => by
        rw [(x8 w hw l').2]
        by_cases c : l' < bL B
        · rw [hf l' c]
        · simp [c]) (ub_r _ _ _ _)
      rw [← this]
      congr 1
      rw [uj_s]
      by_cases c : w = y
      · rw [if_pos c, if_pos c, c]
      · rw [if_neg c, if_neg c, uj_c (by decide)]

/-! LAYER 2: the invariant at the start -/
def B0 : Bd := fun c i => if c = 0 then [4, 0, 5, 2, 0].getD i 0 else if c = 1 then 1 else 0
def chkI (I : HI) (l : List (Nat × Nat × Int32)) : Bool := l.all (fun q => decide (I q.1 q.2.1 = q.2.2))
def chk0 (I : HI) (J : HJ) : Bool :=
  chkI I [(x_board, f_Board_wide, nI 4), (x_board, f_Board_lamps, nI 0), (x_board, f_Board_supply, nI 5), (x_board, f_Board_depth, nI 2), (x_board, f_Board_faint, nI 0),
    (m_self, f_Model_wide, nI 4), (m_self, f_Model_lamps, nI 0), (m_sets, 0, nI 5), (m_sets, 1, nI 2), (m_sets, 2, nI 0),
    (m_self, f_Model_typed, nI 0), (x_text, f_Text_size, nI 0), (x_notes, f_Notes_high, nI 0), (x_notes, f_Notes_low, nI 0), (x_notes, f_Notes_seenSize, nI 0), (m_self, f_Model_shownHigh, nI 0), (m_self, f_Model_shownLow, nI 0), (m_self, f_Model_seenMany, nI 0),
    (x_told, f_Told_size, nI 0), (m_self, f_Model_rowMany, nI 0), (x_plan, f_Plan_tests, nI 0), (m_self, f_Model_testMany, nI 0), (x_kept_0, f_Kept_full, nI 0), (x_kept_1, f_Kept_full, nI 0), (m_isKept, 0, nI 0), (m_isKept, 1, nI 0),
    (x_table, f_Table_fresh, nI 0), (x_flow, f_Flow_watched, -nI 1), (m_self, f_Model_isCounted, nI 0), (m_self, f_Model_asked, -nI 1), (m_self, f_Model_boards, nI 0)] &&
  (List.range 10).all (fun w => decide (I x_board_ohms w = nI 1) && decide (I m_ohm w = nI 1) && decide (J x_board_out w = lN 0) && decide (J x_board_into w = lN 0)) &&
  (List.range 4).all (fun i => decide (J x_notes_pictures i = lN 0) && decide (J m_pictures i = lN 0)) &&
  (List.range 64).all (fun k => decide (J x_flow_light k = lN 0))
set_option maxRecDepth 100000 in
theorem chk0_ok : F_law0.map (fun q => chk0 q.2.1 q.2.2) = some true := by decide +kernel
theorem start_ok (I : HI) (J : HJ) (h : F_law0 = some ((), I, J)) : Iv 65 false I J := by
  have hc := chk0_ok
  rw [h] at hc
  simp only [Option.map_some, Option.some.injEq] at hc
  unfold chk0 chkI at hc
  simp only [Bool.and_eq_true, List.all_cons, List.all_nil, List.all_eq_true, List.mem_range, decide_eq_true_eq, and_true] at hc
  obtain ⟨⟨⟨hI, hW⟩, hP⟩, hL⟩ := hc
  obtain ⟨a1, a2, a3, a4, a5, a6, a7, a8, a9, a10, a11, a12, a13, a14, a15, a16, a17, a18, a19, a20, a21, a22, a23, a24, a25, a26, a27, a28, a29, a30, a31⟩ := hI
  have z32 : ∀ k, bi (nI 0) k = false := bi_z
  have st0 : okSt 4 (nI 0) (nI 0) := ⟨fun w => by rw [bi_z]; rfl, fun w _ => by rw [bi_z]; exact ⟨rfl, rfl⟩⟩
  refine ⟨B0, 0, ⟨by decide, by decide, by decide, by decide, by decide, by decide, by decide, by decide, fun w _ => by simp [B0], fun l hl => by simp [B0] at hl⟩, ⟨a1, a2, a3, a4, a5, fun w hw => by rw [(hW w hw).1.1.1]; rfl, fun l hl => by simp [B0] at hl, fun w hw l => ?_⟩, ⟨a6, a7, a8, a9, a10, fun w hw => by rw [(hW w hw).1.1.2]; rfl, fun l hl => by simp [B0] at hl⟩, ⟨by rw [a11, a12], by rw [a12]; decide, by rw [a12]; decide, fun k hk => ?_⟩, ⟨by rw [a16, a13], by rw [a17, a14], by rw [a13, a14]; exact st0, fun i hi => ?_, 0, by omega, a15, a18, fun k hk => by omega⟩, ⟨0, by omega, a19, a20, fun k hk => by omega⟩, ⟨0, by omega, a21, a22, fun k hk => by omega⟩, ⟨false, a23, (fun h => by cases h), fun _ => Or.inl a25⟩, ⟨false, a24, (fun h => by cases h), fun _ => Or.inl a26⟩, ⟨false, a27, fun h => by cases h⟩, ⟨fun k hk _ => hL k hk, a28⟩, ⟨a29, a30⟩, ⟨a31, by omega⟩⟩
  · rw [(hW w hw).1.2, (hW w hw).2, bt_z]
    simp [B0]
  · rw [a12] at hk
    have : (nI 0).toInt = 0 := by decide
    omega
  · rw [(hP i hi).1, (hP i hi).2]
    exact ⟨rfl, fun k _ => bt_z k⟩

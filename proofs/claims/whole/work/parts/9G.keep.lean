/-! LAYER 2: keep -/

theorem X3_cp0 (I : HI) (J : HJ) : Ok (F_X3_copyFrom_67_25 I J) (fun q => q.2.1 x_kept_0_notes f_Notes_high = I x_notes f_Notes_high ∧ q.2.1 x_kept_0_notes f_Notes_low = I x_notes f_Notes_low ∧ q.2.1 x_kept_0_notes f_Notes_seenSize = I x_notes f_Notes_seenSize ∧ (∀ i, i < 4 → q.2.2 x_kept_0_notes_pictures i = J x_notes_pictures i) ∧ (∀ s, s < 12 → q.2.1 x_kept_0_notes_seenHigh s = I x_notes_seenHigh s ∧ q.2.1 x_kept_0_notes_seenLow s = I x_notes_seenLow s ∧ q.2.2 x_kept_0_notes_seenLamps s = J x_notes_seenLamps s)) := by
  unfold F_X3_copyFrom_67_25
  refine Ok.lbv (Ok.lbv (Ok.lbv (Ok.f (by decide) (Ok.lbv (Ok.f (by decide) (Ok.lbv (Ok.f (by decide) (Ok.lbv (Ok.f (by decide) (Ok.lbv (Ok.mk ⟨?_, ?_, ?_, fun i hi => ?_, fun s hs => ⟨?_, ?_, ?_⟩⟩)))))))))))
  all_goals dsimp only
  · rw [uf_c (by decide), uf_c (by decide), ui_j (by decide), ui_j (by decide), ui_r]
  · rw [uf_c (by decide), uf_c (by decide), ui_j (by decide), ui_r, ui_c (by decide)]
  · rw [uf_c (by decide), uf_c (by decide), ui_r, ui_c (by decide), ui_c (by decide)]
  · rw [ufj_c (by decide), ufj_r, k0c, k4c, cpy_at hi]
  · rw [uf_c (by decide), uf_r, k0c, k12c, cpy_at hs, ui_c (by decide), ui_c (by decide), ui_c (by decide)]
  · rw [uf_r, k0c, k12c, cpy_at hs, uf_c (by decide), ui_c (by decide), ui_c (by decide), ui_c (by decide)]
  · rw [ufj_r, k0c, k12c, cpy_at hs, ufj_c (by decide)]

theorem X3_pc0 (I : HI) (J : HJ) : Ok (F_X3_copyFrom_25_67 I J) (fun q => q.2.1 x_notes f_Notes_high = I x_kept_0_notes f_Notes_high ∧ q.2.1 x_notes f_Notes_low = I x_kept_0_notes f_Notes_low ∧ q.2.1 x_notes f_Notes_seenSize = I x_kept_0_notes f_Notes_seenSize ∧ (∀ i, i < 4 → q.2.2 x_notes_pictures i = J x_kept_0_notes_pictures i) ∧ (∀ s, s < 12 → q.2.1 x_notes_seenHigh s = I x_kept_0_notes_seenHigh s ∧ q.2.1 x_notes_seenLow s = I x_kept_0_notes_seenLow s ∧ q.2.2 x_notes_seenLamps s = J x_kept_0_notes_seenLamps s)) := by
  unfold F_X3_copyFrom_25_67
  refine Ok.lbv (Ok.lbv (Ok.lbv (Ok.f (by decide) (Ok.lbv (Ok.f (by decide) (Ok.lbv (Ok.f (by decide) (Ok.lbv (Ok.f (by decide) (Ok.lbv (Ok.mk ⟨?_, ?_, ?_, fun i hi => ?_, fun s hs => ⟨?_, ?_, ?_⟩⟩)))))))))))
  all_goals dsimp only
  · rw [uf_c (by decide), uf_c (by decide), ui_j (by decide), ui_j (by decide), ui_r]
  · rw [uf_c (by decide), uf_c (by decide), ui_j (by decide), ui_r, ui_c (by decide)]
  · rw [uf_c (by decide), uf_c (by decide), ui_r, ui_c (by decide), ui_c (by decide)]
  · rw [ufj_c (by decide), ufj_r, k0c, k4c, cpy_at hi]
  · rw [uf_c (by decide), uf_r, k0c, k12c, cpy_at hs, ui_c (by decide), ui_c (by decide), ui_c (by decide)]
  · rw [uf_r, k0c, k12c, cpy_at hs, uf_c (by decide), ui_c (by decide), ui_c (by decide), ui_c (by decide)]
  · rw [ufj_r, k0c, k12c, cpy_at hs, ufj_c (by decide)]

theorem X2_take0 (I : HI) (J : HJ) : Ok (F_X2_take_63_1_25 I J) (fun q => q.2.1 x_kept_0 f_Kept_full = 1 ∧ q.2.1 x_kept_0 f_Kept_lamps = I x_board f_Board_lamps ∧ (∀ l, l < 64 → q.2.1 x_kept_0_from l = I x_board_from l ∧ q.2.1 x_kept_0_goal l = I x_board_goal l ∧ q.2.1 x_kept_0_volts l = I x_board_volts l) ∧ q.2.1 x_kept_0_notes f_Notes_high = I x_notes f_Notes_high ∧ q.2.1 x_kept_0_notes f_Notes_low = I x_notes f_Notes_low ∧ q.2.1 x_kept_0_notes f_Notes_seenSize = I x_notes f_Notes_seenSize ∧ (∀ i, i < 4 → q.2.2 x_kept_0_notes_pictures i = J x_notes_pictures i) ∧ (∀ s, s < 12 → q.2.1 x_kept_0_notes_seenHigh s = I x_notes_seenHigh s ∧ q.2.1 x_kept_0_notes_seenLow s = I x_notes_seenLow s ∧ q.2.2 x_kept_0_notes_seenLamps s = J x_notes_seenLamps s)) := by
  unfold F_X2_take_63_1_25
  refine Ok.lbv (Ok.lbv (Ok.f (by decide) (Ok.lbv (Ok.f (by decide) (Ok.lbv (Ok.f (by decide) (Ok.lbv ?_)))))))
  refine Ok.call ((X3_cp0 _ J).fo (fr_X3_copyFrom_67_25 _ J)) (fun r I2 J2 _ hP => ?_)
  obtain ⟨⟨q1, q2, q3, q4, q5⟩, s1, s2⟩ := hP
  simp only at q1 q2 q3 q4 q5 s1 s2
  refine Ok.mk ⟨?_, ?_, fun l hl => ⟨?_, ?_, ?_⟩, ?_, ?_, ?_, q4, fun s hs => ⟨?_, ?_, ?_⟩⟩
  all_goals dsimp only
  · rw [s1 _ _ rfl, uf_c (by decide), uf_c (by decide), uf_c (by decide), ui_j (by decide), ui_r]
  · rw [s1 _ _ rfl, uf_c (by decide), uf_c (by decide), uf_c (by decide), ui_r, ui_c (by decide)]
  · rw [s1 _ _ rfl, uf_c (by decide), uf_c (by decide), uf_r, k0c, k64c, cpy_at hl, ui_c (by decide), ui_c (by decide)]
  · rw [s1 _ _ rfl, uf_c (by decide), uf_r, k0c, k64c, cpy_at hl, uf_c (by decide), ui_c (by decide), ui_c (by decide)]
  · rw [s1 _ _ rfl, uf_r, k0c, k64c, cpy_at hl, uf_c (by decide), uf_c (by decide), ui_c (by decide), ui_c (by decide)]
  · rw [q1, uf_c (by decide), uf_c (by decide), uf_c (by decide), ui_c (by decide), ui_c (by decide)]
  · rw [q2, uf_c (by decide), uf_c (by decide), uf_c (by decide), ui_c (by decide), ui_c (by decide)]
  · rw [q3, uf_c (by decide), uf_c (by decide), uf_c (by decide), ui_c (by decide), ui_c (by decide)]
  · rw [(q5 s hs).1, uf_c (by decide), uf_c (by decide), uf_c (by decide), ui_c (by decide), ui_c (by decide)]
  · rw [(q5 s hs).2.1, uf_c (by decide), uf_c (by decide), uf_c (by decide), ui_c (by decide), ui_c (by decide)]
  · exact (q5 s hs).2.2

theorem X3_cp1 (I : HI) (J : HJ) : Ok (F_X3_copyFrom_76_25 I J) (fun q => q.2.1 x_kept_1_notes f_Notes_high = I x_notes f_Notes_high ∧ q.2.1 x_kept_1_notes f_Notes_low = I x_notes f_Notes_low ∧ q.2.1 x_kept_1_notes f_Notes_seenSize = I x_notes f_Notes_seenSize ∧ (∀ i, i < 4 → q.2.2 x_kept_1_notes_pictures i = J x_notes_pictures i) ∧ (∀ s, s < 12 → q.2.1 x_kept_1_notes_seenHigh s = I x_notes_seenHigh s ∧ q.2.1 x_kept_1_notes_seenLow s = I x_notes_seenLow s ∧ q.2.2 x_kept_1_notes_seenLamps s = J x_notes_seenLamps s)) := by
  unfold F_X3_copyFrom_76_25
  refine Ok.lbv (Ok.lbv (Ok.lbv (Ok.f (by decide) (Ok.lbv (Ok.f (by decide) (Ok.lbv (Ok.f (by decide) (Ok.lbv (Ok.f (by decide) (Ok.lbv (Ok.mk ⟨?_, ?_, ?_, fun i hi => ?_, fun s hs => ⟨?_, ?_, ?_⟩⟩)))))))))))
  all_goals dsimp only
  · rw [uf_c (by decide), uf_c (by decide), ui_j (by decide), ui_j (by decide), ui_r]
  · rw [uf_c (by decide), uf_c (by decide), ui_j (by decide), ui_r, ui_c (by decide)]
  · rw [uf_c (by decide), uf_c (by decide), ui_r, ui_c (by decide), ui_c (by decide)]
  · rw [ufj_c (by decide), ufj_r, k0c, k4c, cpy_at hi]
  · rw [uf_c (by decide), uf_r, k0c, k12c, cpy_at hs, ui_c (by decide), ui_c (by decide), ui_c (by decide)]
  · rw [uf_r, k0c, k12c, cpy_at hs, uf_c (by decide), ui_c (by decide), ui_c (by decide), ui_c (by decide)]
  · rw [ufj_r, k0c, k12c, cpy_at hs, ufj_c (by decide)]

theorem X3_pc1 (I : HI) (J : HJ) : Ok (F_X3_copyFrom_25_76 I J) (fun q => q.2.1 x_notes f_Notes_high = I x_kept_1_notes f_Notes_high ∧ q.2.1 x_notes f_Notes_low = I x_kept_1_notes f_Notes_low ∧ q.2.1 x_notes f_Notes_seenSize = I x_kept_1_notes f_Notes_seenSize ∧ (∀ i, i < 4 → q.2.2 x_notes_pictures i = J x_kept_1_notes_pictures i) ∧ (∀ s, s < 12 → q.2.1 x_notes_seenHigh s = I x_kept_1_notes_seenHigh s ∧ q.2.1 x_notes_seenLow s = I x_kept_1_notes_seenLow s ∧ q.2.2 x_notes_seenLamps s = J x_kept_1_notes_seenLamps s)) := by
  unfold F_X3_copyFrom_25_76
  refine Ok.lbv (Ok.lbv (Ok.lbv (Ok.f (by decide) (Ok.lbv (Ok.f (by decide) (Ok.lbv (Ok.f (by decide) (Ok.lbv (Ok.f (by decide) (Ok.lbv (Ok.mk ⟨?_, ?_, ?_, fun i hi => ?_, fun s hs => ⟨?_, ?_, ?_⟩⟩)))))))))))
  all_goals dsimp only
  · rw [uf_c (by decide), uf_c (by decide), ui_j (by decide), ui_j (by decide), ui_r]
  · rw [uf_c (by decide), uf_c (by decide), ui_j (by decide), ui_r, ui_c (by decide)]
  · rw [uf_c (by decide), uf_c (by decide), ui_r, ui_c (by decide), ui_c (by decide)]
  · rw [ufj_c (by decide), ufj_r, k0c, k4c, cpy_at hi]
  · rw [uf_c (by decide), uf_r, k0c, k12c, cpy_at hs, ui_c (by decide), ui_c (by decide), ui_c (by decide)]
  · rw [uf_r, k0c, k12c, cpy_at hs, uf_c (by decide), ui_c (by decide), ui_c (by decide), ui_c (by decide)]
  · rw [ufj_r, k0c, k12c, cpy_at hs, ufj_c (by decide)]

theorem X2_take1 (I : HI) (J : HJ) : Ok (F_X2_take_72_1_25 I J) (fun q => q.2.1 x_kept_1 f_Kept_full = 1 ∧ q.2.1 x_kept_1 f_Kept_lamps = I x_board f_Board_lamps ∧ (∀ l, l < 64 → q.2.1 x_kept_1_from l = I x_board_from l ∧ q.2.1 x_kept_1_goal l = I x_board_goal l ∧ q.2.1 x_kept_1_volts l = I x_board_volts l) ∧ q.2.1 x_kept_1_notes f_Notes_high = I x_notes f_Notes_high ∧ q.2.1 x_kept_1_notes f_Notes_low = I x_notes f_Notes_low ∧ q.2.1 x_kept_1_notes f_Notes_seenSize = I x_notes f_Notes_seenSize ∧ (∀ i, i < 4 → q.2.2 x_kept_1_notes_pictures i = J x_notes_pictures i) ∧ (∀ s, s < 12 → q.2.1 x_kept_1_notes_seenHigh s = I x_notes_seenHigh s ∧ q.2.1 x_kept_1_notes_seenLow s = I x_notes_seenLow s ∧ q.2.2 x_kept_1_notes_seenLamps s = J x_notes_seenLamps s)) := by
  unfold F_X2_take_72_1_25
  refine Ok.lbv (Ok.lbv (Ok.f (by decide) (Ok.lbv (Ok.f (by decide) (Ok.lbv (Ok.f (by decide) (Ok.lbv ?_)))))))
  refine Ok.call ((X3_cp1 _ J).fo (fr_X3_copyFrom_76_25 _ J)) (fun r I2 J2 _ hP => ?_)
  obtain ⟨⟨q1, q2, q3, q4, q5⟩, s1, s2⟩ := hP
  simp only at q1 q2 q3 q4 q5 s1 s2
  refine Ok.mk ⟨?_, ?_, fun l hl => ⟨?_, ?_, ?_⟩, ?_, ?_, ?_, q4, fun s hs => ⟨?_, ?_, ?_⟩⟩
  all_goals dsimp only
  · rw [s1 _ _ rfl, uf_c (by decide), uf_c (by decide), uf_c (by decide), ui_j (by decide), ui_r]
  · rw [s1 _ _ rfl, uf_c (by decide), uf_c (by decide), uf_c (by decide), ui_r, ui_c (by decide)]
  · rw [s1 _ _ rfl, uf_c (by decide), uf_c (by decide), uf_r, k0c, k64c, cpy_at hl, ui_c (by decide), ui_c (by decide)]
  · rw [s1 _ _ rfl, uf_c (by decide), uf_r, k0c, k64c, cpy_at hl, uf_c (by decide), ui_c (by decide), ui_c (by decide)]
  · rw [s1 _ _ rfl, uf_r, k0c, k64c, cpy_at hl, uf_c (by decide), uf_c (by decide), ui_c (by decide), ui_c (by decide)]
  · rw [q1, uf_c (by decide), uf_c (by decide), uf_c (by decide), ui_c (by decide), ui_c (by decide)]
  · rw [q2, uf_c (by decide), uf_c (by decide), uf_c (by decide), ui_c (by decide), ui_c (by decide)]
  · rw [q3, uf_c (by decide), uf_c (by decide), uf_c (by decide), ui_c (by decide), ui_c (by decide)]
  · rw [(q5 s hs).1, uf_c (by decide), uf_c (by decide), uf_c (by decide), ui_c (by decide), ui_c (by decide)]
  · rw [(q5 s hs).2.1, uf_c (by decide), uf_c (by decide), uf_c (by decide), ui_c (by decide), ui_c (by decide)]
  · exact (q5 s hs).2.2

/-! LAYER 2: Arrays.fill -/
theorem fl_x_board_out (v : Int64) (I : HI) (J0 : HJ) : Ok (F_J7_fill_d0a16_6 v I J0) (fun q => q.2.1 = I ∧ (∀ k, k < 10 → q.2.2 x_board_out k = v) ∧ Sm [(x_board_out, none)] J0 q.2.2) := by
  have h : ∀ K i, i ≤ 10 → 10 - i < K → ∀ J, ((∀ k, k < i → J x_board_out k = v) ∧ Sm [(x_board_out, none)] J0 J) → Ok (F_J7_fill_d0a16_6_L6 v (nI 10) I K (nI i) J) (fun q => q.2.1 = I ∧ (∀ k, k < 10 → q.2.2 x_board_out k = v) ∧ Sm [(x_board_out, none)] J0 q.2.2) := by
    refine up ?_ ?_
    · intro K J hJ
      rw [F_J7_fill_d0a16_6_L6, if_pos (by rw [n_le] <;> omega)]
      exact Ok.mk ⟨rfl, hJ⟩
    · intro K i hi ih J hJ
      rw [F_J7_fill_d0a16_6_L6, if_neg (by rw [n_le] <;> omega)]
      simp (disch := omega) only [n_cl, n_bx, lb, nI_1]
      refine ih _ ⟨fun k hk => ?_, Sm.mj rfl hJ.2⟩
      rw [uj_s]
      by_cases c : k = i
      · rw [if_pos c]
      · rw [if_neg c]; exact hJ.1 k (by omega)
  exact h bgf 0 (by omega) (by unfold bgf; omega) J0 ⟨fun k hk => by omega, Sm.rf⟩
theorem fl_x_board_into (v : Int64) (I : HI) (J0 : HJ) : Ok (F_J7_fill_d0a16_7 v I J0) (fun q => q.2.1 = I ∧ (∀ k, k < 10 → q.2.2 x_board_into k = v) ∧ Sm [(x_board_into, none)] J0 q.2.2) := by
  have h : ∀ K i, i ≤ 10 → 10 - i < K → ∀ J, ((∀ k, k < i → J x_board_into k = v) ∧ Sm [(x_board_into, none)] J0 J) → Ok (F_J7_fill_d0a16_7_L6 v (nI 10) I K (nI i) J) (fun q => q.2.1 = I ∧ (∀ k, k < 10 → q.2.2 x_board_into k = v) ∧ Sm [(x_board_into, none)] J0 q.2.2) := by
    refine up ?_ ?_
    · intro K J hJ
      rw [F_J7_fill_d0a16_7_L6, if_pos (by rw [n_le] <;> omega)]
      exact Ok.mk ⟨rfl, hJ⟩
    · intro K i hi ih J hJ
      rw [F_J7_fill_d0a16_7_L6, if_neg (by rw [n_le] <;> omega)]
      simp (disch := omega) only [n_cl, n_bx, lb, nI_1]
      refine ih _ ⟨fun k hk => ?_, Sm.mj rfl hJ.2⟩
      rw [uj_s]
      by_cases c : k = i
      · rw [if_pos c]
      · rw [if_neg c]; exact hJ.1 k (by omega)
  exact h bgf 0 (by omega) (by unfold bgf; omega) J0 ⟨fun k hk => by omega, Sm.rf⟩
theorem fl_x_notes_pictures (v : Int64) (I : HI) (J0 : HJ) : Ok (F_J7_fill_d0a16_26 v I J0) (fun q => q.2.1 = I ∧ (∀ k, k < 4 → q.2.2 x_notes_pictures k = v) ∧ Sm [(x_notes_pictures, none)] J0 q.2.2) := by
  have h : ∀ K i, i ≤ 4 → 4 - i < K → ∀ J, ((∀ k, k < i → J x_notes_pictures k = v) ∧ Sm [(x_notes_pictures, none)] J0 J) → Ok (F_J7_fill_d0a16_26_L6 v (nI 4) I K (nI i) J) (fun q => q.2.1 = I ∧ (∀ k, k < 4 → q.2.2 x_notes_pictures k = v) ∧ Sm [(x_notes_pictures, none)] J0 q.2.2) := by
    refine up ?_ ?_
    · intro K J hJ
      rw [F_J7_fill_d0a16_26_L6, if_pos (by rw [n_le] <;> omega)]
      exact Ok.mk ⟨rfl, hJ⟩
    · intro K i hi ih J hJ
      rw [F_J7_fill_d0a16_26_L6, if_neg (by rw [n_le] <;> omega)]
      simp (disch := omega) only [n_cl, n_bx, lb, nI_1]
      refine ih _ ⟨fun k hk => ?_, Sm.mj rfl hJ.2⟩
      rw [uj_s]
      by_cases c : k = i
      · rw [if_pos c]
      · rw [if_neg c]; exact hJ.1 k (by omega)
  exact h bgf 0 (by omega) (by unfold bgf; omega) J0 ⟨fun k hk => by omega, Sm.rf⟩
theorem fl_x_flow_drawn (v : Int64) (I : HI) (J0 : HJ) : Ok (F_J7_fill_d0a16_22 v I J0) (fun q => q.2.1 = I ∧ (∀ k, k < 10 → q.2.2 x_flow_drawn k = v) ∧ Sm [(x_flow_drawn, none)] J0 q.2.2) := by
  have h : ∀ K i, i ≤ 10 → 10 - i < K → ∀ J, ((∀ k, k < i → J x_flow_drawn k = v) ∧ Sm [(x_flow_drawn, none)] J0 J) → Ok (F_J7_fill_d0a16_22_L6 v (nI 10) I K (nI i) J) (fun q => q.2.1 = I ∧ (∀ k, k < 10 → q.2.2 x_flow_drawn k = v) ∧ Sm [(x_flow_drawn, none)] J0 q.2.2) := by
    refine up ?_ ?_
    · intro K J hJ
      rw [F_J7_fill_d0a16_22_L6, if_pos (by rw [n_le] <;> omega)]
      exact Ok.mk ⟨rfl, hJ⟩
    · intro K i hi ih J hJ
      rw [F_J7_fill_d0a16_22_L6, if_neg (by rw [n_le] <;> omega)]
      simp (disch := omega) only [n_cl, n_bx, lb, nI_1]
      refine ih _ ⟨fun k hk => ?_, Sm.mj rfl hJ.2⟩
      rw [uj_s]
      by_cases c : k = i
      · rw [if_pos c]
      · rw [if_neg c]; exact hJ.1 k (by omega)
  exact h bgf 0 (by omega) (by unfold bgf; omega) J0 ⟨fun k hk => by omega, Sm.rf⟩
theorem fl_x_table_slots (v : Int32) (I0 : HI) (J : HJ) : Ok (F_J7_fill_53178_35 v I0 J) (fun q => q.2.2 = J ∧ (∀ k, k < 4096 → q.2.1 x_table_slots k = v) ∧ Sm [(x_table_slots, none)] I0 q.2.1) := by
  have h : ∀ K i, i ≤ 4096 → 4096 - i < K → ∀ I, ((∀ k, k < i → I x_table_slots k = v) ∧ Sm [(x_table_slots, none)] I0 I) → Ok (F_J7_fill_53178_35_L5 v (nI 4096) J K (nI i) I) (fun q => q.2.2 = J ∧ (∀ k, k < 4096 → q.2.1 x_table_slots k = v) ∧ Sm [(x_table_slots, none)] I0 q.2.1) := by
    refine up ?_ ?_
    · intro K I hJ
      rw [F_J7_fill_53178_35_L5, if_pos (by rw [n_le] <;> omega)]
      exact Ok.mk ⟨rfl, hJ⟩
    · intro K i hi ih I hJ
      rw [F_J7_fill_53178_35_L5, if_neg (by rw [n_le] <;> omega)]
      simp (disch := omega) only [n_cl, n_bx, lb, nI_1]
      refine ih _ ⟨fun k hk => ?_, Sm.mi rfl hJ.2⟩
      rw [ui_s]
      by_cases c : k = i
      · rw [if_pos c]
      · rw [if_neg c]; exact hJ.1 k (by omega)
  exact h bgf 0 (by omega) (by unfold bgf; omega) I0 ⟨fun k hk => by omega, Sm.rf⟩
theorem fl_x_parting_near (v : Int32) (I0 : HI) (J : HJ) : Ok (F_J7_fill_53178_41 v I0 J) (fun q => q.2.2 = J ∧ (∀ k, k < 12 → q.2.1 x_parting_near k = v) ∧ Sm [(x_parting_near, none)] I0 q.2.1) := by
  have h : ∀ K i, i ≤ 12 → 12 - i < K → ∀ I, ((∀ k, k < i → I x_parting_near k = v) ∧ Sm [(x_parting_near, none)] I0 I) → Ok (F_J7_fill_53178_41_L5 v (nI 12) J K (nI i) I) (fun q => q.2.2 = J ∧ (∀ k, k < 12 → q.2.1 x_parting_near k = v) ∧ Sm [(x_parting_near, none)] I0 q.2.1) := by
    refine up ?_ ?_
    · intro K I hJ
      rw [F_J7_fill_53178_41_L5, if_pos (by rw [n_le] <;> omega)]
      exact Ok.mk ⟨rfl, hJ⟩
    · intro K i hi ih I hJ
      rw [F_J7_fill_53178_41_L5, if_neg (by rw [n_le] <;> omega)]
      simp (disch := omega) only [n_cl, n_bx, lb, nI_1]
      refine ih _ ⟨fun k hk => ?_, Sm.mi rfl hJ.2⟩
      rw [ui_s]
      by_cases c : k = i
      · rw [if_pos c]
      · rw [if_neg c]; exact hJ.1 k (by omega)
  exact h bgf 0 (by omega) (by unfold bgf; omega) I0 ⟨fun k hk => by omega, Sm.rf⟩
theorem fl_x_parting_sums (v : Int64) (I : HI) (J0 : HJ) : Ok (F_J7_fill_d0a16_47 v I J0) (fun q => q.2.1 = I ∧ (∀ k, k < 12 → q.2.2 x_parting_sums k = v) ∧ Sm [(x_parting_sums, none)] J0 q.2.2) := by
  have h : ∀ K i, i ≤ 12 → 12 - i < K → ∀ J, ((∀ k, k < i → J x_parting_sums k = v) ∧ Sm [(x_parting_sums, none)] J0 J) → Ok (F_J7_fill_d0a16_47_L6 v (nI 12) I K (nI i) J) (fun q => q.2.1 = I ∧ (∀ k, k < 12 → q.2.2 x_parting_sums k = v) ∧ Sm [(x_parting_sums, none)] J0 q.2.2) := by
    refine up ?_ ?_
    · intro K J hJ
      rw [F_J7_fill_d0a16_47_L6, if_pos (by rw [n_le] <;> omega)]
      exact Ok.mk ⟨rfl, hJ⟩
    · intro K i hi ih J hJ
      rw [F_J7_fill_d0a16_47_L6, if_neg (by rw [n_le] <;> omega)]
      simp (disch := omega) only [n_cl, n_bx, lb, nI_1]
      refine ih _ ⟨fun k hk => ?_, Sm.mj rfl hJ.2⟩
      rw [uj_s]
      by_cases c : k = i
      · rw [if_pos c]
      · rw [if_neg c]; exact hJ.1 k (by omega)
  exact h bgf 0 (by omega) (by unfold bgf; omega) J0 ⟨fun k hk => by omega, Sm.rf⟩
theorem fl_x_plan_sizes (v : Int32) (I0 : HI) (J : HJ) : Ok (F_J7_fill_53178_57 v I0 J) (fun q => q.2.2 = J ∧ (∀ k, k < 116 → q.2.1 x_plan_sizes k = v) ∧ Sm [(x_plan_sizes, none)] I0 q.2.1) := by
  have h : ∀ K i, i ≤ 116 → 116 - i < K → ∀ I, ((∀ k, k < i → I x_plan_sizes k = v) ∧ Sm [(x_plan_sizes, none)] I0 I) → Ok (F_J7_fill_53178_57_L5 v (nI 116) J K (nI i) I) (fun q => q.2.2 = J ∧ (∀ k, k < 116 → q.2.1 x_plan_sizes k = v) ∧ Sm [(x_plan_sizes, none)] I0 q.2.1) := by
    refine up ?_ ?_
    · intro K I hJ
      rw [F_J7_fill_53178_57_L5, if_pos (by rw [n_le] <;> omega)]
      exact Ok.mk ⟨rfl, hJ⟩
    · intro K i hi ih I hJ
      rw [F_J7_fill_53178_57_L5, if_neg (by rw [n_le] <;> omega)]
      simp (disch := omega) only [n_cl, n_bx, lb, nI_1]
      refine ih _ ⟨fun k hk => ?_, Sm.mi rfl hJ.2⟩
      rw [ui_s]
      by_cases c : k = i
      · rw [if_pos c]
      · rw [if_neg c]; exact hJ.1 k (by omega)
  exact h bgf 0 (by omega) (by unfold bgf; omega) I0 ⟨fun k hk => by omega, Sm.rf⟩
theorem fl_x_plan_worst (v : Int32) (I0 : HI) (J : HJ) : Ok (F_J7_fill_53178_58 v I0 J) (fun q => q.2.2 = J ∧ (∀ k, k < 116 → q.2.1 x_plan_worst k = v) ∧ Sm [(x_plan_worst, none)] I0 q.2.1) := by
  have h : ∀ K i, i ≤ 116 → 116 - i < K → ∀ I, ((∀ k, k < i → I x_plan_worst k = v) ∧ Sm [(x_plan_worst, none)] I0 I) → Ok (F_J7_fill_53178_58_L5 v (nI 116) J K (nI i) I) (fun q => q.2.2 = J ∧ (∀ k, k < 116 → q.2.1 x_plan_worst k = v) ∧ Sm [(x_plan_worst, none)] I0 q.2.1) := by
    refine up ?_ ?_
    · intro K I hJ
      rw [F_J7_fill_53178_58_L5, if_pos (by rw [n_le] <;> omega)]
      exact Ok.mk ⟨rfl, hJ⟩
    · intro K i hi ih I hJ
      rw [F_J7_fill_53178_58_L5, if_neg (by rw [n_le] <;> omega)]
      simp (disch := omega) only [n_cl, n_bx, lb, nI_1]
      refine ih _ ⟨fun k hk => ?_, Sm.mi rfl hJ.2⟩
      rw [ui_s]
      by_cases c : k = i
      · rw [if_pos c]
      · rw [if_neg c]; exact hJ.1 k (by omega)
  exact h bgf 0 (by omega) (by unfold bgf; omega) I0 ⟨fun k hk => by omega, Sm.rf⟩
theorem fl_x_parting_fewest (n : Nat) (hn : n ≤ 4096) (v : Int32) (I0 : HI) (J : HJ) : Ok (F_J7_fill_fda19_40 (nI 0) (nI n) v I0 J) (fun q => q.2.2 = J ∧ (∀ k, k < n → q.2.1 x_parting_fewest k = v) ∧ Sm [(x_parting_fewest, none)] I0 q.2.1) := by
  have h : ∀ K i, i ≤ n → n - i < K → ∀ I, ((∀ k, k < i → I x_parting_fewest k = v) ∧ Sm [(x_parting_fewest, none)] I0 I) → Ok (F_J7_fill_fda19_40_L10 (nI n) v J K (nI i) I) (fun q => q.2.2 = J ∧ (∀ k, k < n → q.2.1 x_parting_fewest k = v) ∧ Sm [(x_parting_fewest, none)] I0 q.2.1) := by
    refine up ?_ ?_
    · intro K I hJ
      rw [F_J7_fill_fda19_40_L10, if_pos (by rw [n_le] <;> omega)]
      exact Ok.mk ⟨rfl, hJ⟩
    · intro K i hi ih I hJ
      rw [F_J7_fill_fda19_40_L10, if_neg (by rw [n_le] <;> omega)]
      simp (disch := omega) only [n_cl, n_bx, lb, nI_1]
      refine ih _ ⟨fun k hk => ?_, Sm.mi rfl hJ.2⟩
      rw [ui_s]
      by_cases c : k = i
      · rw [if_pos c]
      · rw [if_neg c]; exact hJ.1 k (by omega)
  unfold F_J7_fill_fda19_40 F_J7_rangeCheck_23922
  simp (disch := omega) only [lit32, n_le, Nat.zero_le, if_true, hn, cp, Option.bind_some]
  exact h bgf 0 (by omega) (by unfold bgf; omega) I0 ⟨fun k hk => by omega, Sm.rf⟩

/-! computations and their proofs: X2 -/
def F_X2_take_72_1_25  (I : HI) (J : HJ) : Option (Unit × HI × HJ) :=
  lb (ui I x_kept_1 f_Kept_full (1 : Int32)) fun I6 =>
  lb (ui I6 x_kept_1 f_Kept_lamps (I6 x_board f_Board_lamps)) fun I7 =>
  if (0 : Int32) < 0 ∨ (0 : Int32) < 0 ∨ (64 : Int32) < 0 ∨ 64 < Int32.toNatClampNeg (0 : Int32) + Int32.toNatClampNeg (64 : Int32) ∨ 64 < Int32.toNatClampNeg (0 : Int32) + Int32.toNatClampNeg (64 : Int32) then none else
  lb (uf I7 x_kept_1_from (va_cpy (I7 x_board_from) (I7 x_kept_1_from) (Int32.toNatClampNeg (0 : Int32)) (Int32.toNatClampNeg (0 : Int32)) (Int32.toNatClampNeg (64 : Int32)))) fun I8 =>
  if (0 : Int32) < 0 ∨ (0 : Int32) < 0 ∨ (64 : Int32) < 0 ∨ 64 < Int32.toNatClampNeg (0 : Int32) + Int32.toNatClampNeg (64 : Int32) ∨ 64 < Int32.toNatClampNeg (0 : Int32) + Int32.toNatClampNeg (64 : Int32) then none else
  lb (uf I8 x_kept_1_goal (va_cpy (I8 x_board_goal) (I8 x_kept_1_goal) (Int32.toNatClampNeg (0 : Int32)) (Int32.toNatClampNeg (0 : Int32)) (Int32.toNatClampNeg (64 : Int32)))) fun I9 =>
  if (0 : Int32) < 0 ∨ (0 : Int32) < 0 ∨ (64 : Int32) < 0 ∨ 64 < Int32.toNatClampNeg (0 : Int32) + Int32.toNatClampNeg (64 : Int32) ∨ 64 < Int32.toNatClampNeg (0 : Int32) + Int32.toNatClampNeg (64 : Int32) then none else
  lb (uf I9 x_kept_1_volts (va_cpy (I9 x_board_volts) (I9 x_kept_1_volts) (Int32.toNatClampNeg (0 : Int32)) (Int32.toNatClampNeg (0 : Int32)) (Int32.toNatClampNeg (64 : Int32)))) fun I10 =>
  cl (F_X3_copyFrom_76_25 I10 J) fun _ I11 J12 =>
  some ((), I11, J12)
set_option maxRecDepth 100000 in
theorem cm_X2_take_72_1_25 (b : Bool)  (I : HI) (J : HJ) : CM mX2_take 2 0 0 [.ref 72, .ref 1, .ref 25] (zs b, I, J) (fV (zs b)) (F_X2_take_72_1_25  I J) := by
  refine S.of okX2_take pn_X2 (Nat.le_of_ble_eq_true rfl) ?_
  refine S.sub (lv' := [(0, .ref 72), (1, .ref 1), (2, .ref 25)]) [0, 1, 2] rfl ?_
  unfold F_X2_take_72_1_25
  refine S.aload_n 0 0 rfl rfl ?_
  refine S.iconst (1 : Int32) 1 rfl (by decide) ?_
  refine S.putI 2 rfl fo_X2_9 rfl rfl (by decide) (by decide) (fun _ hq => by cases hq; exact Or.inl rfl) (fun I6 => ?_)
  refine S.aload_n 3 0 rfl rfl ?_
  refine S.aload_n 4 1 rfl rfl ?_
  refine S.getI 5 rfl fo_X2_36 rfl rfl ?_
  refine S.putI 6 rfl fo_X2_15 rfl rfl rfl rfl (fun _ hq => by cases hq; exact Or.inl rfl) (fun I7 => ?_)
  refine S.aload_n 7 1 rfl rfl ?_
  refine S.getR 8 rfl fo_X2_39 rfl rfl rfl ?_
  refine S.iconst (0 : Int32) 9 rfl (by decide) ?_
  refine S.aload_n 10 0 rfl rfl ?_
  refine S.getR 11 rfl fo_X2_19 rfl rfl rfl ?_
  refine S.iconst (0 : Int32) 12 rfl (by decide) ?_
  refine S.bipush (64 : Int32) 13 rfl (by decide) ?_
  refine S.copyi 14 rfl co_X2_40 w_ac1 w_ac2 w_ac3 rfl rfl (Nat.le_of_ble_eq_true rfl) (Nat.le_of_ble_eq_true rfl) (Nat.le_of_ble_eq_true rfl) (fun I8 => ?_)
  refine S.aload_n 15 1 rfl rfl ?_
  refine S.getR 16 rfl fo_X2_46 rfl rfl rfl ?_
  refine S.iconst (0 : Int32) 17 rfl (by decide) ?_
  refine S.aload_n 18 0 rfl rfl ?_
  refine S.getR 19 rfl fo_X2_23 rfl rfl rfl ?_
  refine S.iconst (0 : Int32) 20 rfl (by decide) ?_
  refine S.bipush (64 : Int32) 21 rfl (by decide) ?_
  refine S.copyi 22 rfl co_X2_40 w_ac1 w_ac2 w_ac3 rfl rfl (Nat.le_of_ble_eq_true rfl) (Nat.le_of_ble_eq_true rfl) (Nat.le_of_ble_eq_true rfl) (fun I9 => ?_)
  refine S.aload_n 23 1 rfl rfl ?_
  refine S.getR 24 rfl fo_X2_47 rfl rfl rfl ?_
  refine S.iconst (0 : Int32) 25 rfl (by decide) ?_
  refine S.aload_n 26 0 rfl rfl ?_
  refine S.getR 27 rfl fo_X2_26 rfl rfl rfl ?_
  refine S.iconst (0 : Int32) 28 rfl (by decide) ?_
  refine S.bipush (64 : Int32) 29 rfl (by decide) ?_
  refine S.copyi 30 rfl co_X2_40 w_ac1 w_ac2 w_ac3 rfl rfl (Nat.le_of_ble_eq_true rfl) (Nat.le_of_ble_eq_true rfl) (Nat.le_of_ble_eq_true rfl) (fun I10 => ?_)
  refine S.aload_n 31 0 rfl rfl ?_
  refine S.getR 32 rfl fo_X2_32 rfl rfl rfl ?_
  refine S.aload_n 33 2 rfl rfl ?_
  refine S.cVV (d := 1) (av := [.ref 25]) (rs := [.ref 25]) (b := 76) 34 rfl co_X2_48 rfl rfl rfl rfl rfl ⟨⟨Nat.le_of_ble_eq_true rfl, Nat.le_of_ble_eq_true rfl⟩, ⟨Nat.le_of_ble_eq_true rfl, Nat.le_of_ble_eq_true rfl⟩, Nat.le_of_ble_eq_true rfl⟩ (cm_X3_copyFrom_76_25 b I10 J) (fun _ I11 J12 => ?_)
  exact S.vret 35 rfl rfl (Nat.le_refl _) (Nat.le_refl _) rfl
def F_X2_take_63_1_25  (I : HI) (J : HJ) : Option (Unit × HI × HJ) :=
  lb (ui I x_kept_0 f_Kept_full (1 : Int32)) fun I6 =>
  lb (ui I6 x_kept_0 f_Kept_lamps (I6 x_board f_Board_lamps)) fun I7 =>
  if (0 : Int32) < 0 ∨ (0 : Int32) < 0 ∨ (64 : Int32) < 0 ∨ 64 < Int32.toNatClampNeg (0 : Int32) + Int32.toNatClampNeg (64 : Int32) ∨ 64 < Int32.toNatClampNeg (0 : Int32) + Int32.toNatClampNeg (64 : Int32) then none else
  lb (uf I7 x_kept_0_from (va_cpy (I7 x_board_from) (I7 x_kept_0_from) (Int32.toNatClampNeg (0 : Int32)) (Int32.toNatClampNeg (0 : Int32)) (Int32.toNatClampNeg (64 : Int32)))) fun I8 =>
  if (0 : Int32) < 0 ∨ (0 : Int32) < 0 ∨ (64 : Int32) < 0 ∨ 64 < Int32.toNatClampNeg (0 : Int32) + Int32.toNatClampNeg (64 : Int32) ∨ 64 < Int32.toNatClampNeg (0 : Int32) + Int32.toNatClampNeg (64 : Int32) then none else
  lb (uf I8 x_kept_0_goal (va_cpy (I8 x_board_goal) (I8 x_kept_0_goal) (Int32.toNatClampNeg (0 : Int32)) (Int32.toNatClampNeg (0 : Int32)) (Int32.toNatClampNeg (64 : Int32)))) fun I9 =>
  if (0 : Int32) < 0 ∨ (0 : Int32) < 0 ∨ (64 : Int32) < 0 ∨ 64 < Int32.toNatClampNeg (0 : Int32) + Int32.toNatClampNeg (64 : Int32) ∨ 64 < Int32.toNatClampNeg (0 : Int32) + Int32.toNatClampNeg (64 : Int32) then none else
  lb (uf I9 x_kept_0_volts (va_cpy (I9 x_board_volts) (I9 x_kept_0_volts) (Int32.toNatClampNeg (0 : Int32)) (Int32.toNatClampNeg (0 : Int32)) (Int32.toNatClampNeg (64 : Int32)))) fun I10 =>
  cl (F_X3_copyFrom_67_25 I10 J) fun _ I11 J12 =>
  some ((), I11, J12)
set_option maxRecDepth 100000 in
theorem cm_X2_take_63_1_25 (b : Bool)  (I : HI) (J : HJ) : CM mX2_take 2 0 0 [.ref 63, .ref 1, .ref 25] (zs b, I, J) (fV (zs b)) (F_X2_take_63_1_25  I J) := by
  refine S.of okX2_take pn_X2 (Nat.le_of_ble_eq_true rfl) ?_
  refine S.sub (lv' := [(0, .ref 63), (1, .ref 1), (2, .ref 25)]) [0, 1, 2] rfl ?_
  unfold F_X2_take_63_1_25
  refine S.aload_n 0 0 rfl rfl ?_
  refine S.iconst (1 : Int32) 1 rfl (by decide) ?_
  refine S.putI 2 rfl fo_X2_9 rfl rfl (by decide) (by decide) (fun _ hq => by cases hq; exact Or.inl rfl) (fun I6 => ?_)
  refine S.aload_n 3 0 rfl rfl ?_
  refine S.aload_n 4 1 rfl rfl ?_
  refine S.getI 5 rfl fo_X2_36 rfl rfl ?_
  refine S.putI 6 rfl fo_X2_15 rfl rfl rfl rfl (fun _ hq => by cases hq; exact Or.inl rfl) (fun I7 => ?_)
  refine S.aload_n 7 1 rfl rfl ?_
  refine S.getR 8 rfl fo_X2_39 rfl rfl rfl ?_
  refine S.iconst (0 : Int32) 9 rfl (by decide) ?_
  refine S.aload_n 10 0 rfl rfl ?_
  refine S.getR 11 rfl fo_X2_19 rfl rfl rfl ?_
  refine S.iconst (0 : Int32) 12 rfl (by decide) ?_
  refine S.bipush (64 : Int32) 13 rfl (by decide) ?_
  refine S.copyi 14 rfl co_X2_40 w_ac1 w_ac2 w_ac3 rfl rfl (Nat.le_of_ble_eq_true rfl) (Nat.le_of_ble_eq_true rfl) (Nat.le_of_ble_eq_true rfl) (fun I8 => ?_)
  refine S.aload_n 15 1 rfl rfl ?_
  refine S.getR 16 rfl fo_X2_46 rfl rfl rfl ?_
  refine S.iconst (0 : Int32) 17 rfl (by decide) ?_
  refine S.aload_n 18 0 rfl rfl ?_
  refine S.getR 19 rfl fo_X2_23 rfl rfl rfl ?_
  refine S.iconst (0 : Int32) 20 rfl (by decide) ?_
  refine S.bipush (64 : Int32) 21 rfl (by decide) ?_
  refine S.copyi 22 rfl co_X2_40 w_ac1 w_ac2 w_ac3 rfl rfl (Nat.le_of_ble_eq_true rfl) (Nat.le_of_ble_eq_true rfl) (Nat.le_of_ble_eq_true rfl) (fun I9 => ?_)
  refine S.aload_n 23 1 rfl rfl ?_
  refine S.getR 24 rfl fo_X2_47 rfl rfl rfl ?_
  refine S.iconst (0 : Int32) 25 rfl (by decide) ?_
  refine S.aload_n 26 0 rfl rfl ?_
  refine S.getR 27 rfl fo_X2_26 rfl rfl rfl ?_
  refine S.iconst (0 : Int32) 28 rfl (by decide) ?_
  refine S.bipush (64 : Int32) 29 rfl (by decide) ?_
  refine S.copyi 30 rfl co_X2_40 w_ac1 w_ac2 w_ac3 rfl rfl (Nat.le_of_ble_eq_true rfl) (Nat.le_of_ble_eq_true rfl) (Nat.le_of_ble_eq_true rfl) (fun I10 => ?_)
  refine S.aload_n 31 0 rfl rfl ?_
  refine S.getR 32 rfl fo_X2_32 rfl rfl rfl ?_
  refine S.aload_n 33 2 rfl rfl ?_
  refine S.cVV (d := 1) (av := [.ref 25]) (rs := [.ref 25]) (b := 67) 34 rfl co_X2_48 rfl rfl rfl rfl rfl ⟨⟨Nat.le_of_ble_eq_true rfl, Nat.le_of_ble_eq_true rfl⟩, ⟨Nat.le_of_ble_eq_true rfl, Nat.le_of_ble_eq_true rfl⟩, Nat.le_of_ble_eq_true rfl⟩ (cm_X3_copyFrom_67_25 b I10 J) (fun _ I11 J12 => ?_)
  exact S.vret 35 rfl rfl (Nat.le_refl _) (Nat.le_refl _) rfl
def F_X2_give_72_1_25  (I : HI) (J : HJ) : Option (Unit × HI × HJ) :=
  lb (ui I x_board f_Board_lamps (I x_kept_1 f_Kept_lamps)) fun I5 =>
  if (0 : Int32) < 0 ∨ (0 : Int32) < 0 ∨ (64 : Int32) < 0 ∨ 64 < Int32.toNatClampNeg (0 : Int32) + Int32.toNatClampNeg (64 : Int32) ∨ 64 < Int32.toNatClampNeg (0 : Int32) + Int32.toNatClampNeg (64 : Int32) then none else
  lb (uf I5 x_board_from (va_cpy (I5 x_kept_1_from) (I5 x_board_from) (Int32.toNatClampNeg (0 : Int32)) (Int32.toNatClampNeg (0 : Int32)) (Int32.toNatClampNeg (64 : Int32)))) fun I6 =>
  if (0 : Int32) < 0 ∨ (0 : Int32) < 0 ∨ (64 : Int32) < 0 ∨ 64 < Int32.toNatClampNeg (0 : Int32) + Int32.toNatClampNeg (64 : Int32) ∨ 64 < Int32.toNatClampNeg (0 : Int32) + Int32.toNatClampNeg (64 : Int32) then none else
  lb (uf I6 x_board_goal (va_cpy (I6 x_kept_1_goal) (I6 x_board_goal) (Int32.toNatClampNeg (0 : Int32)) (Int32.toNatClampNeg (0 : Int32)) (Int32.toNatClampNeg (64 : Int32)))) fun I7 =>
  if (0 : Int32) < 0 ∨ (0 : Int32) < 0 ∨ (64 : Int32) < 0 ∨ 64 < Int32.toNatClampNeg (0 : Int32) + Int32.toNatClampNeg (64 : Int32) ∨ 64 < Int32.toNatClampNeg (0 : Int32) + Int32.toNatClampNeg (64 : Int32) then none else
  lb (uf I7 x_board_volts (va_cpy (I7 x_kept_1_volts) (I7 x_board_volts) (Int32.toNatClampNeg (0 : Int32)) (Int32.toNatClampNeg (0 : Int32)) (Int32.toNatClampNeg (64 : Int32)))) fun I8 =>
  cl (F_X0_rewire I8 J) fun _ I9 J10 =>
  cl (F_X3_copyFrom_25_76 I9 J10) fun _ I11 J12 =>
  some ((), I11, J12)
set_option maxRecDepth 100000 in
theorem cm_X2_give_72_1_25 (b : Bool)  (I : HI) (J : HJ) : CM mX2_give 3 0 0 [.ref 72, .ref 1, .ref 25] (zs b, I, J) (fV (zs b)) (F_X2_give_72_1_25  I J) := by
  refine S.of okX2_give pn_X2 (Nat.le_of_ble_eq_true rfl) ?_
  refine S.sub (lv' := [(0, .ref 72), (1, .ref 1), (2, .ref 25)]) [0, 1, 2] rfl ?_
  unfold F_X2_give_72_1_25
  refine S.aload_n 0 1 rfl rfl ?_
  refine S.aload_n 1 0 rfl rfl ?_
  refine S.getI 2 rfl fo_X2_15 rfl rfl ?_
  refine S.putI 3 rfl fo_X2_36 rfl rfl rfl rfl (fun _ hq => by cases hq; exact Or.inl rfl) (fun I5 => ?_)
  refine S.aload_n 4 0 rfl rfl ?_
  refine S.getR 5 rfl fo_X2_19 rfl rfl rfl ?_
  refine S.iconst (0 : Int32) 6 rfl (by decide) ?_
  refine S.aload_n 7 1 rfl rfl ?_
  refine S.getR 8 rfl fo_X2_39 rfl rfl rfl ?_
  refine S.iconst (0 : Int32) 9 rfl (by decide) ?_
  refine S.bipush (64 : Int32) 10 rfl (by decide) ?_
  refine S.copyi 11 rfl co_X2_40 w_ac1 w_ac2 w_ac3 rfl rfl (Nat.le_of_ble_eq_true rfl) (Nat.le_of_ble_eq_true rfl) (Nat.le_of_ble_eq_true rfl) (fun I6 => ?_)
  refine S.aload_n 12 0 rfl rfl ?_
  refine S.getR 13 rfl fo_X2_23 rfl rfl rfl ?_
  refine S.iconst (0 : Int32) 14 rfl (by decide) ?_
  refine S.aload_n 15 1 rfl rfl ?_
  refine S.getR 16 rfl fo_X2_46 rfl rfl rfl ?_
  refine S.iconst (0 : Int32) 17 rfl (by decide) ?_
  refine S.bipush (64 : Int32) 18 rfl (by decide) ?_
  refine S.copyi 19 rfl co_X2_40 w_ac1 w_ac2 w_ac3 rfl rfl (Nat.le_of_ble_eq_true rfl) (Nat.le_of_ble_eq_true rfl) (Nat.le_of_ble_eq_true rfl) (fun I7 => ?_)
  refine S.aload_n 20 0 rfl rfl ?_
  refine S.getR 21 rfl fo_X2_26 rfl rfl rfl ?_
  refine S.iconst (0 : Int32) 22 rfl (by decide) ?_
  refine S.aload_n 23 1 rfl rfl ?_
  refine S.getR 24 rfl fo_X2_47 rfl rfl rfl ?_
  refine S.iconst (0 : Int32) 25 rfl (by decide) ?_
  refine S.bipush (64 : Int32) 26 rfl (by decide) ?_
  refine S.copyi 27 rfl co_X2_40 w_ac1 w_ac2 w_ac3 rfl rfl (Nat.le_of_ble_eq_true rfl) (Nat.le_of_ble_eq_true rfl) (Nat.le_of_ble_eq_true rfl) (fun I8 => ?_)
  refine S.aload_n 28 1 rfl rfl ?_
  refine S.cVV (d := 2) (av := []) (rs := []) (b := 1) 29 rfl co_X2_52 rfl rfl rfl rfl rfl ⟨⟨Nat.le_of_ble_eq_true rfl, Nat.le_of_ble_eq_true rfl⟩, ⟨Nat.le_of_ble_eq_true rfl, Nat.le_of_ble_eq_true rfl⟩, Nat.le_of_ble_eq_true rfl⟩ (cm_X0_rewire b I8 J) (fun _ I9 J10 => ?_)
  refine S.aload_n 30 2 rfl rfl ?_
  refine S.aload_n 31 0 rfl rfl ?_
  refine S.getR 32 rfl fo_X2_32 rfl rfl rfl ?_
  refine S.cVV (d := 1) (av := [.ref 76]) (rs := [.ref 76]) (b := 25) 33 rfl co_X2_48 rfl rfl rfl rfl rfl ⟨⟨Nat.le_of_ble_eq_true rfl, Nat.le_of_ble_eq_true rfl⟩, ⟨Nat.le_of_ble_eq_true rfl, Nat.le_of_ble_eq_true rfl⟩, Nat.le_of_ble_eq_true rfl⟩ (cm_X3_copyFrom_25_76 b I9 J10) (fun _ I11 J12 => ?_)
  exact S.vret 34 rfl rfl (Nat.le_refl _) (Nat.le_refl _) rfl
def F_X2_give_63_1_25  (I : HI) (J : HJ) : Option (Unit × HI × HJ) :=
  lb (ui I x_board f_Board_lamps (I x_kept_0 f_Kept_lamps)) fun I5 =>
  if (0 : Int32) < 0 ∨ (0 : Int32) < 0 ∨ (64 : Int32) < 0 ∨ 64 < Int32.toNatClampNeg (0 : Int32) + Int32.toNatClampNeg (64 : Int32) ∨ 64 < Int32.toNatClampNeg (0 : Int32) + Int32.toNatClampNeg (64 : Int32) then none else
  lb (uf I5 x_board_from (va_cpy (I5 x_kept_0_from) (I5 x_board_from) (Int32.toNatClampNeg (0 : Int32)) (Int32.toNatClampNeg (0 : Int32)) (Int32.toNatClampNeg (64 : Int32)))) fun I6 =>
  if (0 : Int32) < 0 ∨ (0 : Int32) < 0 ∨ (64 : Int32) < 0 ∨ 64 < Int32.toNatClampNeg (0 : Int32) + Int32.toNatClampNeg (64 : Int32) ∨ 64 < Int32.toNatClampNeg (0 : Int32) + Int32.toNatClampNeg (64 : Int32) then none else
  lb (uf I6 x_board_goal (va_cpy (I6 x_kept_0_goal) (I6 x_board_goal) (Int32.toNatClampNeg (0 : Int32)) (Int32.toNatClampNeg (0 : Int32)) (Int32.toNatClampNeg (64 : Int32)))) fun I7 =>
  if (0 : Int32) < 0 ∨ (0 : Int32) < 0 ∨ (64 : Int32) < 0 ∨ 64 < Int32.toNatClampNeg (0 : Int32) + Int32.toNatClampNeg (64 : Int32) ∨ 64 < Int32.toNatClampNeg (0 : Int32) + Int32.toNatClampNeg (64 : Int32) then none else
  lb (uf I7 x_board_volts (va_cpy (I7 x_kept_0_volts) (I7 x_board_volts) (Int32.toNatClampNeg (0 : Int32)) (Int32.toNatClampNeg (0 : Int32)) (Int32.toNatClampNeg (64 : Int32)))) fun I8 =>
  cl (F_X0_rewire I8 J) fun _ I9 J10 =>
  cl (F_X3_copyFrom_25_67 I9 J10) fun _ I11 J12 =>
  some ((), I11, J12)
set_option maxRecDepth 100000 in
theorem cm_X2_give_63_1_25 (b : Bool)  (I : HI) (J : HJ) : CM mX2_give 3 0 0 [.ref 63, .ref 1, .ref 25] (zs b, I, J) (fV (zs b)) (F_X2_give_63_1_25  I J) := by
  refine S.of okX2_give pn_X2 (Nat.le_of_ble_eq_true rfl) ?_
  refine S.sub (lv' := [(0, .ref 63), (1, .ref 1), (2, .ref 25)]) [0, 1, 2] rfl ?_
  unfold F_X2_give_63_1_25
  refine S.aload_n 0 1 rfl rfl ?_
  refine S.aload_n 1 0 rfl rfl ?_
  refine S.getI 2 rfl fo_X2_15 rfl rfl ?_
  refine S.putI 3 rfl fo_X2_36 rfl rfl rfl rfl (fun _ hq => by cases hq; exact Or.inl rfl) (fun I5 => ?_)
  refine S.aload_n 4 0 rfl rfl ?_
  refine S.getR 5 rfl fo_X2_19 rfl rfl rfl ?_
  refine S.iconst (0 : Int32) 6 rfl (by decide) ?_
  refine S.aload_n 7 1 rfl rfl ?_
  refine S.getR 8 rfl fo_X2_39 rfl rfl rfl ?_
  refine S.iconst (0 : Int32) 9 rfl (by decide) ?_
  refine S.bipush (64 : Int32) 10 rfl (by decide) ?_
  refine S.copyi 11 rfl co_X2_40 w_ac1 w_ac2 w_ac3 rfl rfl (Nat.le_of_ble_eq_true rfl) (Nat.le_of_ble_eq_true rfl) (Nat.le_of_ble_eq_true rfl) (fun I6 => ?_)
  refine S.aload_n 12 0 rfl rfl ?_
  refine S.getR 13 rfl fo_X2_23 rfl rfl rfl ?_
  refine S.iconst (0 : Int32) 14 rfl (by decide) ?_
  refine S.aload_n 15 1 rfl rfl ?_
  refine S.getR 16 rfl fo_X2_46 rfl rfl rfl ?_
  refine S.iconst (0 : Int32) 17 rfl (by decide) ?_
  refine S.bipush (64 : Int32) 18 rfl (by decide) ?_
  refine S.copyi 19 rfl co_X2_40 w_ac1 w_ac2 w_ac3 rfl rfl (Nat.le_of_ble_eq_true rfl) (Nat.le_of_ble_eq_true rfl) (Nat.le_of_ble_eq_true rfl) (fun I7 => ?_)
  refine S.aload_n 20 0 rfl rfl ?_
  refine S.getR 21 rfl fo_X2_26 rfl rfl rfl ?_
  refine S.iconst (0 : Int32) 22 rfl (by decide) ?_
  refine S.aload_n 23 1 rfl rfl ?_
  refine S.getR 24 rfl fo_X2_47 rfl rfl rfl ?_
  refine S.iconst (0 : Int32) 25 rfl (by decide) ?_
  refine S.bipush (64 : Int32) 26 rfl (by decide) ?_
  refine S.copyi 27 rfl co_X2_40 w_ac1 w_ac2 w_ac3 rfl rfl (Nat.le_of_ble_eq_true rfl) (Nat.le_of_ble_eq_true rfl) (Nat.le_of_ble_eq_true rfl) (fun I8 => ?_)
  refine S.aload_n 28 1 rfl rfl ?_
  refine S.cVV (d := 2) (av := []) (rs := []) (b := 1) 29 rfl co_X2_52 rfl rfl rfl rfl rfl ⟨⟨Nat.le_of_ble_eq_true rfl, Nat.le_of_ble_eq_true rfl⟩, ⟨Nat.le_of_ble_eq_true rfl, Nat.le_of_ble_eq_true rfl⟩, Nat.le_of_ble_eq_true rfl⟩ (cm_X0_rewire b I8 J) (fun _ I9 J10 => ?_)
  refine S.aload_n 30 2 rfl rfl ?_
  refine S.aload_n 31 0 rfl rfl ?_
  refine S.getR 32 rfl fo_X2_32 rfl rfl rfl ?_
  refine S.cVV (d := 1) (av := [.ref 67]) (rs := [.ref 67]) (b := 25) 33 rfl co_X2_48 rfl rfl rfl rfl rfl ⟨⟨Nat.le_of_ble_eq_true rfl, Nat.le_of_ble_eq_true rfl⟩, ⟨Nat.le_of_ble_eq_true rfl, Nat.le_of_ble_eq_true rfl⟩, Nat.le_of_ble_eq_true rfl⟩ (cm_X3_copyFrom_25_67 b I9 J10) (fun _ I11 J12 => ?_)
  exact S.vret 34 rfl rfl (Nat.le_refl _) (Nat.le_refl _) rfl

/-! computations and their proofs: X8 -/
def F_X8_refresh_L30 (kx158 : HI → HJ → Option (Unit × HI × HJ)) : Nat → Int32 → HI → HJ → Option (Unit × HI × HJ)
  | 0, _, _, _ => none
  | K+1, l1, I, J =>
    if (I x_table f_Table_size) ≤ l1 then
      kx158 I J
    else
      cp (F_X11_wiresThatAre (1 : Int32) l1 (I x_board f_Board_wide)) fun r9 =>
      bx l1 2187 <|
      lb (ui I x_table_high (Int32.toNatClampNeg l1) r9) fun I10 =>
      cp (F_X11_wiresThatAre (2 : Int32) l1 (I10 x_board f_Board_wide)) fun r11 =>
      bx l1 2187 <|
      lb (ui I10 x_table_low (Int32.toNatClampNeg l1) r11) fun I12 =>
      bx l1 2187 <|
      bx l1 2187 <|
      cl (F_X1_lay (I12 x_table_high (Int32.toNatClampNeg l1)) (I12 x_table_low (Int32.toNatClampNeg l1)) I12 J) fun _ I13 J14 =>
      cl (F_X1_run I13 J14) fun r15 I16 J17 =>
      bx l1 2187 <|
      lb (uj J17 x_table_glow (Int32.toNatClampNeg l1) r15) fun J18 =>
      bx l1 2187 <|
      bx l1 2187 <|
      bx l1 2187 <|
      cp (F_X0_asked (I16 x_table_high (Int32.toNatClampNeg l1)) (I16 x_table_low (Int32.toNatClampNeg l1)) I16 J18) fun r19 =>
      lb (fun (y20 : Int32) (y21 : Int32) =>
      bx y20 2187 <|
      lb (ui I16 x_table_clean (Int32.toNatClampNeg y20) (vp_nar .boolean y21)) fun I23 =>
      F_X8_refresh_L30 kx158 K (l1 + 1) I23 J18) fun j22 =>
      if (lg_cmp ((J18 x_table_glow (Int32.toNatClampNeg l1)) &&& (r19 ^^^ (-1 : Int64))) (0 : Int64)) = 0 then
        j22 l1 (1 : Int32)
      else
        j22 l1 (0 : Int32)
set_option maxRecDepth 100000 in
theorem s_X8_refresh_L30 (b : Bool) (kx158 : HI → HJ → Option (Unit × HI × HJ)) (hkx158 : ∀ (I1 : HI) (J1 : HJ), S (fV (zs b)) mX8_refresh (rmd 24 0 0) 0 0 (0, 0) 158 [(0, .ref 30)] [] (zs b, I1, J1) (kx158 I1 J1)) : ∀ (K : Nat) (l1 : Int32) (I : HI) (J : HJ), S (fV (zs b)) mX8_refresh (rmd 24 0 0) 0 0 (0, 0) 30 [(0, .ref 30), (1, .int l1)] [] (zs b, I, J) (F_X8_refresh_L30 kx158 K l1 I J) := by
  intro K
  induction K with
  | zero => intro l1 I J; exact S.none
  | succ K ih =>
    intro l1 I J
    rw [F_X8_refresh_L30]
    refine S.iload_n 14 1 rfl rfl ?_
    refine S.aload_n 15 0 rfl rfl ?_
    refine S.getI 16 rfl fo_X8_29 rfl rfl ?_
    refine S.icmp_ge 158 17 rfl (by decide) (fun _ => ?_) (fun _ => ?_)
    · refine S.sub (lv' := [(0, .ref 30)]) [0] rfl ?_
      exact hkx158 _ _
    · refine S.aload_n 18 0 rfl rfl ?_
      refine S.getR 19 rfl fo_X8_9 rfl rfl rfl ?_
      refine S.iload_n 20 1 rfl rfl ?_
      refine S.iconst (1 : Int32) 21 rfl (by decide) ?_
      refine S.iload_n 22 1 rfl rfl ?_
      refine S.aload_n 23 0 rfl rfl ?_
      refine S.getR 24 rfl fo_X8_37 rfl rfl rfl ?_
      refine S.getI 25 rfl fo_X8_45 rfl rfl ?_
      refine S.qNI (d := 1) (av := [.int (1 : Int32), .int l1, .int (I x_board f_Board_wide)]) (rs := [.int (I x_board f_Board_wide), .int l1, .int (1 : Int32)]) 26 rfl co_X8_60 rfl rfl ⟨⟨Nat.le_of_ble_eq_true rfl, Nat.le_of_ble_eq_true rfl⟩, ⟨Nat.le_of_ble_eq_true rfl, Nat.le_of_ble_eq_true rfl⟩, Nat.le_of_ble_eq_true rfl⟩ (cm_X11_wiresThatAre (zs b, I, J) (1 : Int32) l1 (I x_board f_Board_wide)) (fun r9 => ?_)
      refine S.iast 27 rfl rfl (fun I10 => ?_)
      refine S.aload_n 28 0 rfl rfl ?_
      refine S.getR 29 rfl fo_X8_15 rfl rfl rfl ?_
      refine S.iload_n 30 1 rfl rfl ?_
      refine S.iconst (2 : Int32) 31 rfl (by decide) ?_
      refine S.iload_n 32 1 rfl rfl ?_
      refine S.aload_n 33 0 rfl rfl ?_
      refine S.getR 34 rfl fo_X8_37 rfl rfl rfl ?_
      refine S.getI 35 rfl fo_X8_45 rfl rfl ?_
      refine S.qNI (d := 1) (av := [.int (2 : Int32), .int l1, .int (I10 x_board f_Board_wide)]) (rs := [.int (I10 x_board f_Board_wide), .int l1, .int (2 : Int32)]) 36 rfl co_X8_60 rfl rfl ⟨⟨Nat.le_of_ble_eq_true rfl, Nat.le_of_ble_eq_true rfl⟩, ⟨Nat.le_of_ble_eq_true rfl, Nat.le_of_ble_eq_true rfl⟩, Nat.le_of_ble_eq_true rfl⟩ (cm_X11_wiresThatAre (zs b, I10, J) (2 : Int32) l1 (I10 x_board f_Board_wide)) (fun r11 => ?_)
      refine S.iast 37 rfl rfl (fun I12 => ?_)
      refine S.aload_n 38 0 rfl rfl ?_
      refine S.getR 39 rfl fo_X8_41 rfl rfl rfl ?_
      refine S.aload_n 40 0 rfl rfl ?_
      refine S.getR 41 rfl fo_X8_9 rfl rfl rfl ?_
      refine S.iload_n 42 1 rfl rfl ?_
      refine S.iald 43 rfl rfl ?_
      refine S.aload_n 44 0 rfl rfl ?_
      refine S.getR 45 rfl fo_X8_15 rfl rfl rfl ?_
      refine S.iload_n 46 1 rfl rfl ?_
      refine S.iald 47 rfl rfl ?_
      refine S.cVV (d := 1) (av := [.int (I12 x_table_high (Int32.toNatClampNeg l1)), .int (I12 x_table_low (Int32.toNatClampNeg l1))]) (rs := [.int (I12 x_table_low (Int32.toNatClampNeg l1)), .int (I12 x_table_high (Int32.toNatClampNeg l1))]) (b := 17) 48 rfl co_X8_64 rfl rfl rfl rfl rfl ⟨⟨Nat.le_of_ble_eq_true rfl, Nat.le_of_ble_eq_true rfl⟩, ⟨Nat.le_of_ble_eq_true rfl, Nat.le_of_ble_eq_true rfl⟩, Nat.le_of_ble_eq_true rfl⟩ (cm_X1_lay b (I12 x_table_high (Int32.toNatClampNeg l1)) (I12 x_table_low (Int32.toNatClampNeg l1)) I12 J) (fun _ I13 J14 => ?_)
      refine S.aload_n 49 0 rfl rfl ?_
      refine S.getR 50 rfl fo_X8_18 rfl rfl rfl ?_
      refine S.iload_n 51 1 rfl rfl ?_
      refine S.aload_n 52 0 rfl rfl ?_
      refine S.getR 53 rfl fo_X8_41 rfl rfl rfl ?_
      refine S.cVL (d := 23) (av := []) (rs := []) (b := 17) 54 rfl co_X8_70 rfl rfl rfl rfl rfl ⟨⟨Nat.le_of_ble_eq_true rfl, Nat.le_of_ble_eq_true rfl⟩, ⟨Nat.le_of_ble_eq_true rfl, Nat.le_of_ble_eq_true rfl⟩, Nat.le_of_ble_eq_true rfl⟩ (cm_X1_run b I13 J14) (fun r15 I16 J17 => ?_)
      refine S.last 55 rfl rfl (fun J18 => ?_)
      refine S.aload_n 56 0 rfl rfl ?_
      refine S.getR 57 rfl fo_X8_22 rfl rfl rfl ?_
      refine S.iload_n 58 1 rfl rfl ?_
      refine S.aload_n 59 0 rfl rfl ?_
      refine S.getR 60 rfl fo_X8_18 rfl rfl rfl ?_
      refine S.iload_n 61 1 rfl rfl ?_
      refine S.lald 62 rfl rfl ?_
      refine S.aload_n 63 0 rfl rfl ?_
      refine S.getR 64 rfl fo_X8_37 rfl rfl rfl ?_
      refine S.aload_n 65 0 rfl rfl ?_
      refine S.getR 66 rfl fo_X8_9 rfl rfl rfl ?_
      refine S.iload_n 67 1 rfl rfl ?_
      refine S.iald 68 rfl rfl ?_
      refine S.aload_n 69 0 rfl rfl ?_
      refine S.getR 70 rfl fo_X8_15 rfl rfl rfl ?_
      refine S.iload_n 71 1 rfl rfl ?_
      refine S.iald 72 rfl rfl ?_
      refine S.qVL (d := 1) (av := [.int (I16 x_table_high (Int32.toNatClampNeg l1)), .int (I16 x_table_low (Int32.toNatClampNeg l1))]) (rs := [.int (I16 x_table_low (Int32.toNatClampNeg l1)), .int (I16 x_table_high (Int32.toNatClampNeg l1))]) (b := 1) 73 rfl co_X8_74 rfl rfl rfl rfl rfl ⟨⟨Nat.le_of_ble_eq_true rfl, Nat.le_of_ble_eq_true rfl⟩, ⟨Nat.le_of_ble_eq_true rfl, Nat.le_of_ble_eq_true rfl⟩, Nat.le_of_ble_eq_true rfl⟩ (cm_X0_asked b (I16 x_table_high (Int32.toNatClampNeg l1)) (I16 x_table_low (Int32.toNatClampNeg l1)) I16 J18) (fun r19 => ?_)
      refine S.ldc2 (-1 : Int64) 74 rfl ko_X8_78 ?_
      refine S.lxor 75 rfl ?_
      refine S.land 76 rfl ?_
      refine S.lconst (0 : Int64) 77 rfl (by decide) ?_
      refine S.lcmp 78 rfl ?_
      refine S.jn (fun j => ∀ (y20 : Int32) (y21 : Int32), S (fV (zs b)) mX8_refresh (rmd 24 0 0) 0 0 (0, 0) 151 [(0, .ref 30), (1, .int l1)] [.int y21, .int y20, .ref 34] (zs b, I16, J18) (j y20 y21)) (fun y20 y21 => ?_) (fun j22 hj22 => ?_)
      · refine S.zast 83 rfl rfl (fun I23 => ?_)
        refine S.iinc (l1 + 1) [(1, .int (l1 + 1)), (0, .ref 30)] 84 1 rfl rfl rfl (by decide) rfl ?_
        refine S.goto 30 85 rfl (by decide) ?_
        refine S.sub (lv' := [(0, .ref 30), (1, .int (l1 + 1))]) [1, 0] rfl ?_
        exact ih _ _ _
      · refine S.if_ne 150 79 rfl (by decide) (fun _ => ?_) (fun _ => ?_)
        · refine S.iconst (0 : Int32) 82 rfl (by decide) ?_
          exact hj22 _ _
        · refine S.iconst (1 : Int32) 80 rfl (by decide) ?_
          refine S.goto 151 81 rfl (by decide) ?_
          exact hj22 _ _
def F_X8_refresh  (I : HI) (J : HJ) : Option (Unit × HI × HJ) :=
  if (I x_table f_Table_fresh) = 0 then
    cp (F_X11_settingsOf (I x_board f_Board_wide)) fun r7 =>
    lb (ui I x_table f_Table_size (omin r7 (2187 : Int32))) fun I8 =>
    F_X8_refresh_L30 (fun (I24 : HI) (J25 : HJ) =>
    lb (ui I24 x_table f_Table_fresh (1 : Int32)) fun I26 =>
    some ((), I26, J25)) bgf (0 : Int32) I8 J
  else
    some ((), I, J)
set_option maxRecDepth 100000 in
theorem cm_X8_refresh (b : Bool)  (I : HI) (J : HJ) : CM mX8_refresh 24 0 0 [.ref 30] (zs b, I, J) (fV (zs b)) (F_X8_refresh  I J) := by
  refine S.of okX8_refresh pn_X8 (Nat.le_of_ble_eq_true rfl) ?_
  refine S.sub (lv' := [(0, .ref 30)]) [0] rfl ?_
  unfold F_X8_refresh
  refine S.aload_n 0 0 rfl rfl ?_
  refine S.getI 1 rfl fo_X8_33 rfl rfl ?_
  refine S.if_eq 8 2 rfl (by decide) (fun _ => ?_) (fun _ => ?_)
  · refine S.aload_n 4 0 rfl rfl ?_
    refine S.aload_n 5 0 rfl rfl ?_
    refine S.getR 6 rfl fo_X8_37 rfl rfl rfl ?_
    refine S.getI 7 rfl fo_X8_45 rfl rfl ?_
    refine S.qNI (d := 1) (av := [.int (I x_board f_Board_wide)]) (rs := [.int (I x_board f_Board_wide)]) 8 rfl co_X8_50 rfl rfl ⟨⟨Nat.le_of_ble_eq_true rfl, Nat.le_of_ble_eq_true rfl⟩, ⟨Nat.le_of_ble_eq_true rfl, Nat.le_of_ble_eq_true rfl⟩, Nat.le_of_ble_eq_true rfl⟩ (cm_X11_settingsOf (zs b, I, J) (I x_board f_Board_wide)) (fun r7 => ?_)
    refine S.sipush (2187 : Int32) 9 rfl (by decide) ?_
    refine S.mmin 10 rfl co_X8_54 ⟨Nat.le_of_ble_eq_true rfl, Nat.le_of_ble_eq_true rfl, Nat.le_of_ble_eq_true rfl, Nat.le_of_ble_eq_true rfl, Nat.le_of_ble_eq_true rfl⟩ ?_
    refine S.putI 11 rfl fo_X8_29 rfl rfl rfl rfl (fun _ hq => by cases hq; exact Or.inl rfl) (fun I8 => ?_)
    refine S.iconst (0 : Int32) 12 rfl (by decide) ?_
    refine S.istore_n [(1, .int (0 : Int32)), (0, .ref 30)] 13 rfl (by decide) rfl ?_
    refine S.sub (lv' := [(0, .ref 30), (1, .int (0 : Int32))]) [1, 0] rfl ?_
    refine s_X8_refresh_L30 b _ (fun I24 J25 => ?_) bgf _ _ _
    refine S.aload_n 86 0 rfl rfl ?_
    refine S.iconst (1 : Int32) 87 rfl (by decide) ?_
    refine S.putI 88 rfl fo_X8_33 rfl rfl (by decide) (by decide) (fun _ hq => by cases hq; exact Or.inl rfl) (fun I26 => ?_)
    exact S.vret 89 rfl rfl (Nat.le_refl _) (Nat.le_refl _) rfl
  · exact S.vret 3 rfl rfl (Nat.le_refl _) (Nat.le_refl _) rfl
def F_X8_enter_L17 (l1 : Int32) (l2 : Int32) (I : HI) (J : HJ) (kx55 : Int32 → Option (Int32 × HI × HJ)) : Nat → Int32 → Option (Int32 × HI × HJ)
  | 0, _ => none
  | K+1, l3 =>
    if (4096 : Int32) ≤ l3 then
      some ((0 : Int32), I, J)
    else
      lb (((l2 + l3) &&& ((4096 : Int32) - (1 : Int32)))) fun x6 =>
      bx x6 4096 <|
      lb (((I x_table_slots (Int32.toNatClampNeg x6)) - (1 : Int32))) fun x7 =>
      if 0 ≤ x7 then
        bx x7 2187 <|
        bx l1 2187 <|
        if (lg_cmp (J x_table_glow (Int32.toNatClampNeg x7)) (J x_table_glow (Int32.toNatClampNeg l1))) = 0 then
          some ((0 : Int32), I, J)
        else
          F_X8_enter_L17 l1 l2 I J kx55 K (l3 + 1)
      else
        kx55 x6
set_option maxRecDepth 100000 in
theorem s_X8_enter_L17 (b : Bool) (l1 : Int32) (l2 : Int32) (I : HI) (J : HJ) (kx55 : Int32 → Option (Int32 × HI × HJ)) (hkx55 : ∀ (y4 : Int32), S (fI (zs b)) mX8_enter (rmd 1 0 0) 0 0 (0, 0) 55 [(0, .ref 30), (1, .int l1), (4, .int y4)] [] (zs b, I, J) (kx55 y4)) : ∀ (K : Nat) (l3 : Int32), S (fI (zs b)) mX8_enter (rmd 1 0 0) 0 0 (0, 0) 17 [(0, .ref 30), (1, .int l1), (2, .int l2), (3, .int l3)] [] (zs b, I, J) (F_X8_enter_L17 l1 l2 I J kx55 K l3) := by
  intro K
  induction K with
  | zero => intro l3; exact S.none
  | succ K ih =>
    intro l3
    rw [F_X8_enter_L17]
    refine S.iload_n 12 3 rfl rfl ?_
    refine S.aload_n 13 0 rfl rfl ?_
    refine S.getR 14 rfl fo_X8_26 rfl rfl rfl ?_
    refine S.alen (4096 : Int32) 15 rfl rfl (by decide) (by decide) (by decide) ?_
    refine S.icmp_ge 92 16 rfl (by decide) (fun _ => ?_) (fun _ => ?_)
    · refine S.iconst (0 : Int32) 59 rfl (by decide) ?_
      exact S.iret 60 rfl rfl rfl (Nat.le_refl _) (Nat.le_refl _) rfl
    · refine S.iload_n 17 2 rfl rfl ?_
      refine S.iload_n 18 3 rfl rfl ?_
      refine S.iadd 19 rfl ?_
      refine S.aload_n 20 0 rfl rfl ?_
      refine S.getR 21 rfl fo_X8_26 rfl rfl rfl ?_
      refine S.alen (4096 : Int32) 22 rfl rfl (by decide) (by decide) (by decide) ?_
      refine S.iconst (1 : Int32) 23 rfl (by decide) ?_
      refine S.isub 24 rfl ?_
      refine S.iand 25 rfl ?_
      refine S.nmi (fun x6 => ?_)
      refine S.istore [(4, .int x6), (0, .ref 30), (1, .int l1), (2, .int l2), (3, .int l3)] 26 rfl (by decide) rfl ?_
      refine S.aload_n 27 1 rfl rfl ?_
      refine S.getR 28 rfl fo_X8_26 rfl rfl rfl ?_
      refine S.iload 29 0 rfl rfl ?_
      refine S.iald 30 rfl rfl ?_
      refine S.iconst (1 : Int32) 31 rfl (by decide) ?_
      refine S.isub 32 rfl ?_
      refine S.nmi (fun x7 => ?_)
      refine S.istore [(5, .int x7), (4, .int x6), (0, .ref 30), (1, .int l1), (2, .int l2), (3, .int l3)] 33 rfl (by decide) rfl ?_
      refine S.iload 34 0 rfl rfl ?_
      refine S.if_ge 67 35 rfl (by decide) (fun _ => ?_) (fun _ => ?_)
      · refine S.aload_n 45 2 rfl rfl ?_
        refine S.getR 46 rfl fo_X8_18 rfl rfl rfl ?_
        refine S.iload 47 0 rfl rfl ?_
        refine S.lald 48 rfl rfl ?_
        refine S.aload_n 49 2 rfl rfl ?_
        refine S.getR 50 rfl fo_X8_18 rfl rfl rfl ?_
        refine S.iload_n 51 3 rfl rfl ?_
        refine S.lald 52 rfl rfl ?_
        refine S.lcmp 53 rfl ?_
        refine S.if_ne 86 54 rfl (by decide) (fun _ => ?_) (fun _ => ?_)
        · refine S.iinc (l3 + 1) [(3, .int (l3 + 1)), (5, .int x7), (4, .int x6), (0, .ref 30), (1, .int l1), (2, .int l2)] 57 5 rfl rfl rfl (by decide) rfl ?_
          refine S.goto 17 58 rfl (by decide) ?_
          refine S.sub (lv' := [(0, .ref 30), (1, .int l1), (2, .int l2), (3, .int (l3 + 1))]) [3, 4, 5, 0] rfl ?_
          exact ih _
        · refine S.iconst (0 : Int32) 55 rfl (by decide) ?_
          exact S.iret 56 rfl rfl rfl (Nat.le_refl _) (Nat.le_refl _) rfl
      · refine S.sub (lv' := [(0, .ref 30), (1, .int l1), (4, .int x6)]) [2, 3, 1] rfl ?_
        exact hkx55 _
def F_X8_enter (l1 : Int32) (I : HI) (J : HJ) : Option (Int32 × HI × HJ) :=
  bx l1 2187 <|
  lb ((Int64.toInt32 (olushr ((J x_table_glow (Int32.toNatClampNeg l1)) * (-7046029254386353131 : Int64)) (52 : Int32)))) fun x5 =>
  F_X8_enter_L17 l1 x5 I J (fun (y8 : Int32) =>
  bx y8 4096 <|
  lb (ui I x_table_slots (Int32.toNatClampNeg y8) (l1 + (1 : Int32))) fun I9 =>
  some ((1 : Int32), I9, J)) bgf (0 : Int32)
set_option maxRecDepth 100000 in
theorem cm_X8_enter (b : Bool) (l1 : Int32) (I : HI) (J : HJ) : CM mX8_enter 1 0 0 [.ref 30, .int l1] (zs b, I, J) (fI (zs b)) (F_X8_enter l1 I J) := by
  refine S.of okX8_enter pn_X8 (Nat.le_of_ble_eq_true rfl) ?_
  refine S.sub (lv' := [(0, .ref 30), (1, .int l1)]) [0, 1] rfl ?_
  unfold F_X8_enter
  refine S.aload_n 0 0 rfl rfl ?_
  refine S.getR 1 rfl fo_X8_18 rfl rfl rfl ?_
  refine S.iload_n 2 1 rfl rfl ?_
  refine S.lald 3 rfl rfl ?_
  refine S.ldc2 (-7046029254386353131 : Int64) 4 rfl ko_X8_84 ?_
  refine S.lmul 5 rfl ?_
  refine S.bipush (52 : Int32) 6 rfl (by decide) ?_
  refine S.lushr 7 rfl ?_
  refine S.l2i 8 rfl ?_
  refine S.nmi (fun x5 => ?_)
  refine S.istore_n [(2, .int x5), (0, .ref 30), (1, .int l1)] 9 rfl (by decide) rfl ?_
  refine S.iconst (0 : Int32) 10 rfl (by decide) ?_
  refine S.istore_n [(3, .int (0 : Int32)), (2, .int x5), (0, .ref 30), (1, .int l1)] 11 rfl (by decide) rfl ?_
  refine S.sub (lv' := [(0, .ref 30), (1, .int l1), (2, .int x5), (3, .int (0 : Int32))]) [2, 3, 1, 0] rfl ?_
  refine s_X8_enter_L17 b _ _ _ _ _ (fun y8 => ?_) bgf _
  refine S.aload_n 36 0 rfl rfl ?_
  refine S.getR 37 rfl fo_X8_26 rfl rfl rfl ?_
  refine S.iload 38 2 rfl rfl ?_
  refine S.iload_n 39 1 rfl rfl ?_
  refine S.iconst (1 : Int32) 40 rfl (by decide) ?_
  refine S.iadd 41 rfl ?_
  refine S.iast 42 rfl rfl (fun I9 => ?_)
  refine S.iconst (1 : Int32) 43 rfl (by decide) ?_
  exact S.iret 44 rfl rfl rfl (Nat.le_refl _) (Nat.le_refl _) rfl
def F_X8_newSets_L4 (l1 : Int32) : Nat → Int32 → Int32 → HI → HJ → Option (Int32 × HI × HJ)
  | 0, _, _, _, _ => none
  | K+1, l2, l3, I, J =>
    if (I x_table f_Table_size) ≤ l3 then
      some (l2, I, J)
    else
      bx l3 2187 <|
      lb (fun (y1 : Int32) (I2 : HI) (J3 : HJ) =>
      F_X8_newSets_L4 l1 K y1 (l3 + 1) I2 J3) fun j4 =>
      if (I x_table_clean (Int32.toNatClampNeg l3)) = l1 then
        cl (F_X8_enter l3 I J) fun r5 I6 J7 =>
        if r5 = 0 then
          j4 l2 I6 J7
        else
          j4 (l2 + 1) I6 J7
      else
        j4 l2 I J
set_option maxRecDepth 100000 in
theorem s_X8_newSets_L4 (b : Bool) (l1 : Int32) : ∀ (K : Nat) (l2 : Int32) (l3 : Int32) (I : HI) (J : HJ), S (fI (zs b)) mX8_newSets (rmd 2 0 0) 0 0 (0, 0) 4 [(0, .ref 30), (1, .int l1), (2, .int l2), (3, .int l3)] [] (zs b, I, J) (F_X8_newSets_L4 l1 K l2 l3 I J) := by
  intro K
  induction K with
  | zero => intro l2 l3 I J; exact S.none
  | succ K ih =>
    intro l2 l3 I J
    rw [F_X8_newSets_L4]
    refine S.iload_n 4 3 rfl rfl ?_
    refine S.aload_n 5 0 rfl rfl ?_
    refine S.getI 6 rfl fo_X8_29 rfl rfl ?_
    refine S.icmp_ge 39 7 rfl (by decide) (fun _ => ?_) (fun _ => ?_)
    · refine S.iload_n 21 2 rfl rfl ?_
      exact S.iret 22 rfl rfl rfl (Nat.le_refl _) (Nat.le_refl _) rfl
    · refine S.aload_n 8 0 rfl rfl ?_
      refine S.getR 9 rfl fo_X8_22 rfl rfl rfl ?_
      refine S.iload_n 10 3 rfl rfl ?_
      refine S.zald 11 rfl rfl ?_
      refine S.iload_n 12 1 rfl rfl ?_
      refine S.jn (fun j => ∀ (y1 : Int32) (I2 : HI) (J3 : HJ), S (fI (zs b)) mX8_newSets (rmd 2 0 0) 0 0 (0, 0) 33 [(0, .ref 30), (1, .int l1), (2, .int y1), (3, .int l3)] [] (zs b, I2, J3) (j y1 I2 J3)) (fun y1 I2 J3 => ?_) (fun j4 hj4 => ?_)
      · refine S.iinc (l3 + 1) [(3, .int (l3 + 1)), (0, .ref 30), (1, .int l1), (2, .int y1)] 19 3 rfl rfl rfl (by decide) rfl ?_
        refine S.goto 4 20 rfl (by decide) ?_
        refine S.sub (lv' := [(0, .ref 30), (1, .int l1), (2, .int y1), (3, .int (l3 + 1))]) [1, 2, 3, 0] rfl ?_
        exact ih _ _ _ _
      · refine S.icmp_ne 33 13 rfl (by decide) (fun _ => ?_) (fun _ => ?_)
        · exact hj4 _ _ _
        · refine S.aload_n 14 0 rfl rfl ?_
          refine S.iload_n 15 3 rfl rfl ?_
          refine S.cVI (d := 1) (av := [.int l3]) (rs := [.int l3]) (b := 30) 16 rfl co_X8_80 rfl rfl rfl rfl rfl ⟨⟨Nat.le_of_ble_eq_true rfl, Nat.le_of_ble_eq_true rfl⟩, ⟨Nat.le_of_ble_eq_true rfl, Nat.le_of_ble_eq_true rfl⟩, Nat.le_of_ble_eq_true rfl⟩ (cm_X8_enter b l3 I J) (fun r5 I6 J7 => ?_)
          refine S.if_eq 33 17 rfl (by decide) (fun _ => ?_) (fun _ => ?_)
          · exact hj4 _ _ _
          · refine S.iinc (l2 + 1) [(2, .int (l2 + 1)), (0, .ref 30), (1, .int l1), (3, .int l3)] 18 2 rfl rfl rfl (by decide) rfl ?_
            refine S.sub (lv' := [(0, .ref 30), (1, .int l1), (2, .int (l2 + 1)), (3, .int l3)]) [1, 2, 0, 3] rfl ?_
            exact hj4 _ _ _
def F_X8_newSets (l1 : Int32) (I : HI) (J : HJ) : Option (Int32 × HI × HJ) :=
  F_X8_newSets_L4 l1 bgf (0 : Int32) (0 : Int32) I J
set_option maxRecDepth 100000 in
theorem cm_X8_newSets (b : Bool) (l1 : Int32) (I : HI) (J : HJ) : CM mX8_newSets 2 0 0 [.ref 30, .int l1] (zs b, I, J) (fI (zs b)) (F_X8_newSets l1 I J) := by
  refine S.of okX8_newSets pn_X8 (Nat.le_of_ble_eq_true rfl) ?_
  refine S.sub (lv' := [(0, .ref 30), (1, .int l1)]) [0, 1] rfl ?_
  unfold F_X8_newSets
  refine S.iconst (0 : Int32) 0 rfl (by decide) ?_
  refine S.istore_n [(2, .int (0 : Int32)), (0, .ref 30), (1, .int l1)] 1 rfl (by decide) rfl ?_
  refine S.iconst (0 : Int32) 2 rfl (by decide) ?_
  refine S.istore_n [(3, .int (0 : Int32)), (2, .int (0 : Int32)), (0, .ref 30), (1, .int l1)] 3 rfl (by decide) rfl ?_
  refine S.sub (lv' := [(0, .ref 30), (1, .int l1), (2, .int (0 : Int32)), (3, .int (0 : Int32))]) [2, 3, 1, 0] rfl ?_
  refine s_X8_newSets_L4 b _ bgf _ _ _ _
def F_X8_likeBehind_L20 (l1 : Int32) (I : HI) (J : HJ) (kx100 : Int64 → Int32 → Option Int64) : Nat → Int64 → Int32 → Int32 → Option Int64
  | 0, _, _, _ => none
  | K+1, l2, l4, l5 =>
    if (I x_table f_Table_size) ≤ l5 then
      kx100 l2 l4
    else
      if (lg_cmp l2 (0 : Int64)) = 0 then
        kx100 l2 l4
      else
        bx l5 2187 <|
        lb (fun (y5 : Int32) =>
        lb (fun (y7 : Int64) (y8 : Int64) =>
        lb ((y7 &&& y8)) fun x10 =>
        lb ((l4 ||| y5)) fun x11 =>
        F_X8_likeBehind_L20 l1 I J kx100 K x10 x11 (l5 + 1)) fun j9 =>
        if y5 = 0 then
          bx l5 2187 <|
          j9 l2 ((J x_table_glow (Int32.toNatClampNeg l5)) ^^^ (-1 : Int64))
        else
          bx l5 2187 <|
          j9 l2 (J x_table_glow (Int32.toNatClampNeg l5))) fun j6 =>
        if (lg_cmp ((olushr (J x_table_glow (Int32.toNatClampNeg l5)) l1) &&& (1 : Int64)) (0 : Int64)) = 0 then
          j6 (0 : Int32)
        else
          j6 (1 : Int32)
set_option maxRecDepth 100000 in
theorem s_X8_likeBehind_L20 (b : Bool) (l1 : Int32) (I : HI) (J : HJ) (kx100 : Int64 → Int32 → Option Int64) (hkx100 : ∀ (y2 : Int64) (y4 : Int32), S (pL (zs b, I, J)) mX8_likeBehind (rmd 1 0 0) 0 0 (0, 0) 100 [(2, .long y2), (4, .int y4)] [] (zs b, I, J) (kx100 y2 y4)) : ∀ (K : Nat) (l2 : Int64) (l4 : Int32) (l5 : Int32), S (pL (zs b, I, J)) mX8_likeBehind (rmd 1 0 0) 0 0 (0, 0) 20 [(0, .ref 30), (1, .int l1), (2, .long l2), (4, .int l4), (5, .int l5)] [] (zs b, I, J) (F_X8_likeBehind_L20 l1 I J kx100 K l2 l4 l5) := by
  intro K
  induction K with
  | zero => intro l2 l4 l5; exact S.none
  | succ K ih =>
    intro l2 l4 l5
    rw [F_X8_likeBehind_L20]
    refine S.iload 14 4 rfl rfl ?_
    refine S.aload_n 15 0 rfl rfl ?_
    refine S.getI 16 rfl fo_X8_29 rfl rfl ?_
    refine S.icmp_ge 100 17 rfl (by decide) (fun _ => ?_) (fun _ => ?_)
    · refine S.sub (lv' := [(2, .long l2), (4, .int l4)]) [2, 3] rfl ?_
      exact hkx100 _ _
    · refine S.lload_n 18 2 rfl rfl ?_
      refine S.lconst (0 : Int64) 19 rfl (by decide) ?_
      refine S.lcmp 20 rfl ?_
      refine S.if_eq 100 21 rfl (by decide) (fun _ => ?_) (fun _ => ?_)
      · refine S.sub (lv' := [(2, .long l2), (4, .int l4)]) [2, 3] rfl ?_
        exact hkx100 _ _
      · refine S.aload_n 22 0 rfl rfl ?_
        refine S.getR 23 rfl fo_X8_18 rfl rfl rfl ?_
        refine S.iload 24 4 rfl rfl ?_
        refine S.lald 25 rfl rfl ?_
        refine S.iload_n 26 1 rfl rfl ?_
        refine S.lushr 27 rfl ?_
        refine S.lconst (1 : Int64) 28 rfl (by decide) ?_
        refine S.land 29 rfl ?_
        refine S.lconst (0 : Int64) 30 rfl (by decide) ?_
        refine S.lcmp 31 rfl ?_
        refine S.jn (fun j => ∀ (y5 : Int32), S (pL (zs b, I, J)) mX8_likeBehind (rmd 1 0 0) 0 0 (0, 0) 56 [(0, .ref 30), (1, .int l1), (2, .long l2), (4, .int l4), (5, .int l5)] [.int y5] (zs b, I, J) (j y5)) (fun y5 => ?_) (fun j6 hj6 => ?_)
        · refine S.istore [(6, .int y5), (0, .ref 30), (1, .int l1), (2, .long l2), (4, .int l4), (5, .int l5)] 36 rfl (by decide) rfl ?_
          refine S.lload_n 37 3 rfl rfl ?_
          refine S.iload 38 0 rfl rfl ?_
          refine S.jn (fun j => ∀ (y7 : Int64) (y8 : Int64), S (pL (zs b, I, J)) mX8_likeBehind (rmd 1 0 0) 0 0 (0, 0) 85 [(0, .ref 30), (1, .int l1), (4, .int l4), (5, .int l5), (6, .int y5)] [.long y8, .long y7] (zs b, I, J) (j y7 y8)) (fun y7 y8 => ?_) (fun j9 hj9 => ?_)
          · refine S.land 51 rfl ?_
            refine S.nml (fun x10 => ?_)
            refine S.lstore_n [(2, .long x10), (0, .ref 30), (1, .int l1), (4, .int l4), (5, .int l5), (6, .int y5)] 52 rfl (by decide) rfl ?_
            refine S.iload 53 3 rfl rfl ?_
            refine S.iload 54 5 rfl rfl ?_
            refine S.ior 55 rfl ?_
            refine S.nmi (fun x11 => ?_)
            refine S.istore [(4, .int x11), (2, .long x10), (0, .ref 30), (1, .int l1), (5, .int l5), (6, .int y5)] 56 rfl (by decide) rfl ?_
            refine S.iinc (l5 + 1) [(5, .int (l5 + 1)), (4, .int x11), (2, .long x10), (0, .ref 30), (1, .int l1), (6, .int y5)] 57 4 rfl rfl rfl (by decide) rfl ?_
            refine S.goto 20 58 rfl (by decide) ?_
            refine S.sub (lv' := [(0, .ref 30), (1, .int l1), (2, .long x10), (4, .int x11), (5, .int (l5 + 1))]) [3, 4, 2, 1, 0] rfl ?_
            exact ih _ _ _
          · refine S.if_eq 74 39 rfl (by decide) (fun _ => ?_) (fun _ => ?_)
            · refine S.aload_n 45 1 rfl rfl ?_
              refine S.getR 46 rfl fo_X8_18 rfl rfl rfl ?_
              refine S.iload 47 5 rfl rfl ?_
              refine S.lald 48 rfl rfl ?_
              refine S.ldc2 (-1 : Int64) 49 rfl ko_X8_78 ?_
              refine S.lxor 50 rfl ?_
              refine S.sub (lv' := [(0, .ref 30), (1, .int l1), (4, .int l4), (5, .int l5), (6, .int y5)]) [1, 2, 4, 5, 0] rfl ?_
              exact hj9 _ _
            · refine S.aload_n 40 1 rfl rfl ?_
              refine S.getR 41 rfl fo_X8_18 rfl rfl rfl ?_
              refine S.iload 42 5 rfl rfl ?_
              refine S.lald 43 rfl rfl ?_
              refine S.goto 85 44 rfl (by decide) ?_
              refine S.sub (lv' := [(0, .ref 30), (1, .int l1), (4, .int l4), (5, .int l5), (6, .int y5)]) [1, 2, 4, 5, 0] rfl ?_
              exact hj9 _ _
        · refine S.if_eq 55 32 rfl (by decide) (fun _ => ?_) (fun _ => ?_)
          · refine S.iconst (0 : Int32) 35 rfl (by decide) ?_
            exact hj6 _
          · refine S.iconst (1 : Int32) 33 rfl (by decide) ?_
            refine S.goto 56 34 rfl (by decide) ?_
            exact hj6 _
def F_X8_likeBehind (l1 : Int32) (I : HI) (J : HJ) : Option Int64 :=
  lb (((olshl (-1 : Int64) l1) &&& ((olshl (1 : Int64) l1) ^^^ (-1 : Int64)))) fun x4 =>
  F_X8_likeBehind_L20 l1 I J (fun (y12 : Int64) (y13 : Int32) =>
  if y13 = 0 then
    some (0 : Int64)
  else
    some y12) bgf x4 (0 : Int32) (0 : Int32)
set_option maxRecDepth 100000 in
theorem cm_X8_likeBehind (b : Bool) (l1 : Int32) (I : HI) (J : HJ) : CM mX8_likeBehind 1 0 0 [.ref 30, .int l1] (zs b, I, J) (pL (zs b, I, J)) (F_X8_likeBehind l1 I J) := by
  refine S.of okX8_likeBehind pn_X8 (Nat.le_of_ble_eq_true rfl) ?_
  refine S.sub (lv' := [(0, .ref 30), (1, .int l1)]) [0, 1] rfl ?_
  unfold F_X8_likeBehind
  refine S.ldc2 (-1 : Int64) 0 rfl ko_X8_78 ?_
  refine S.iload_n 1 1 rfl rfl ?_
  refine S.lshl 2 rfl ?_
  refine S.lconst (1 : Int64) 3 rfl (by decide) ?_
  refine S.iload_n 4 1 rfl rfl ?_
  refine S.lshl 5 rfl ?_
  refine S.ldc2 (-1 : Int64) 6 rfl ko_X8_78 ?_
  refine S.lxor 7 rfl ?_
  refine S.land 8 rfl ?_
  refine S.nml (fun x4 => ?_)
  refine S.lstore_n [(2, .long x4), (0, .ref 30), (1, .int l1)] 9 rfl (by decide) rfl ?_
  refine S.iconst (0 : Int32) 10 rfl (by decide) ?_
  refine S.istore [(4, .int (0 : Int32)), (2, .long x4), (0, .ref 30), (1, .int l1)] 11 rfl (by decide) rfl ?_
  refine S.iconst (0 : Int32) 12 rfl (by decide) ?_
  refine S.istore [(5, .int (0 : Int32)), (4, .int (0 : Int32)), (2, .long x4), (0, .ref 30), (1, .int l1)] 13 rfl (by decide) rfl ?_
  refine S.sub (lv' := [(0, .ref 30), (1, .int l1), (2, .long x4), (4, .int (0 : Int32)), (5, .int (0 : Int32))]) [3, 4, 2, 1, 0] rfl ?_
  refine s_X8_likeBehind_L20 b _ _ _ _ (fun y12 y13 => ?_) bgf _ _ _
  refine S.iload 59 1 rfl rfl ?_
  refine S.if_eq 109 60 rfl (by decide) (fun _ => ?_) (fun _ => ?_)
  · refine S.lconst (0 : Int64) 63 rfl (by decide) ?_
    exact S.lret 64 rfl rfl (Nat.le_refl _) (Nat.le_refl _) rfl
  · refine S.lload_n 61 0 rfl rfl ?_
    refine S.goto 110 62 rfl (by decide) ?_
    exact S.lret 64 rfl rfl (Nat.le_refl _) (Nat.le_refl _) rfl
def F_X8_isTurn (l1 : Int32) (l2 : Int64) (I : HI) (J : HJ) : Option Int32 :=
  bx l1 2187 <|
  if (I x_table_clean (Int32.toNatClampNeg l1)) = 0 then
    some (0 : Int32)
  else
    bx l1 2187 <|
    if (lg_cmp (J x_table_glow (Int32.toNatClampNeg l1)) (0 : Int64)) = 0 then
      some (0 : Int32)
    else
      bx l1 2187 <|
      if (lg_cmp ((J x_table_glow (Int32.toNatClampNeg l1)) &&& (l2 ^^^ (-1 : Int64))) (0 : Int64)) = 0 then
        some (1 : Int32)
      else
        some (0 : Int32)
set_option maxRecDepth 100000 in
theorem cm_X8_isTurn (b : Bool) (l1 : Int32) (l2 : Int64) (I : HI) (J : HJ) : CM mX8_isTurn 1 0 0 [.ref 30, .int l1, .long l2] (zs b, I, J) (pI (zs b, I, J)) (F_X8_isTurn l1 l2 I J) := by
  refine S.of okX8_isTurn pn_X8 (Nat.le_of_ble_eq_true rfl) ?_
  refine S.sub (lv' := [(0, .ref 30), (1, .int l1), (2, .long l2)]) [0, 1, 2] rfl ?_
  unfold F_X8_isTurn
  refine S.aload_n 0 0 rfl rfl ?_
  refine S.getR 1 rfl fo_X8_22 rfl rfl rfl ?_
  refine S.iload_n 2 1 rfl rfl ?_
  refine S.zald 3 rfl rfl ?_
  refine S.if_eq 41 4 rfl (by decide) (fun _ => ?_) (fun _ => ?_)
  · refine S.iconst (0 : Int32) 25 rfl (by decide) ?_
    exact S.iret 26 rfl rfl rfl (Nat.le_refl _) (Nat.le_refl _) rfl
  · refine S.aload_n 5 0 rfl rfl ?_
    refine S.getR 6 rfl fo_X8_18 rfl rfl rfl ?_
    refine S.iload_n 7 1 rfl rfl ?_
    refine S.lald 8 rfl rfl ?_
    refine S.lconst (0 : Int64) 9 rfl (by decide) ?_
    refine S.lcmp 10 rfl ?_
    refine S.if_eq 41 11 rfl (by decide) (fun _ => ?_) (fun _ => ?_)
    · refine S.iconst (0 : Int32) 25 rfl (by decide) ?_
      exact S.iret 26 rfl rfl rfl (Nat.le_refl _) (Nat.le_refl _) rfl
    · refine S.aload_n 12 0 rfl rfl ?_
      refine S.getR 13 rfl fo_X8_18 rfl rfl rfl ?_
      refine S.iload_n 14 1 rfl rfl ?_
      refine S.lald 15 rfl rfl ?_
      refine S.lload_n 16 2 rfl rfl ?_
      refine S.ldc2 (-1 : Int64) 17 rfl ko_X8_78 ?_
      refine S.lxor 18 rfl ?_
      refine S.land 19 rfl ?_
      refine S.lconst (0 : Int64) 20 rfl (by decide) ?_
      refine S.lcmp 21 rfl ?_
      refine S.if_ne 41 22 rfl (by decide) (fun _ => ?_) (fun _ => ?_)
      · refine S.iconst (0 : Int32) 25 rfl (by decide) ?_
        exact S.iret 26 rfl rfl rfl (Nat.le_refl _) (Nat.le_refl _) rfl
      · refine S.iconst (1 : Int32) 23 rfl (by decide) ?_
        refine S.goto 42 24 rfl (by decide) ?_
        exact S.iret 26 rfl rfl rfl (Nat.le_refl _) (Nat.le_refl _) rfl

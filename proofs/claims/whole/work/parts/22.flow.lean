/-! computations and their proofs: X1 -/
def F_X1_lay (l1 : Int32) (l2 : Int32) (I : HI) (J : HJ) : Option (Unit × HI × HJ) :=
  lb (ui I x_flow f_Flow_high l1) fun I8 =>
  lb (ui I8 x_flow f_Flow_low l2) fun I9 =>
  lb (ui I9 x_flow f_Flow_turned (-1 : Int32)) fun I10 =>
  lb (ui I10 x_flow f_Flow_joined (-1 : Int32)) fun I11 =>
  if (0 : Int32) < 0 ∨ (0 : Int32) < 0 ∨ (10 : Int32) < 0 ∨ 10 < Int32.toNatClampNeg (0 : Int32) + Int32.toNatClampNeg (10 : Int32) ∨ 10 < Int32.toNatClampNeg (0 : Int32) + Int32.toNatClampNeg (10 : Int32) then none else
  lb (uf I11 x_flow_ohms (va_cpy (I11 x_board_ohms) (I11 x_flow_ohms) (Int32.toNatClampNeg (0 : Int32)) (Int32.toNatClampNeg (0 : Int32)) (Int32.toNatClampNeg (10 : Int32)))) fun I12 =>
  if (0 : Int32) < 0 ∨ (0 : Int32) < 0 ∨ (10 : Int32) < 0 ∨ 10 < Int32.toNatClampNeg (0 : Int32) + Int32.toNatClampNeg (10 : Int32) ∨ 10 < Int32.toNatClampNeg (0 : Int32) + Int32.toNatClampNeg (10 : Int32) then none else
  lb (ufj J x_flow_out (va_cpy (J x_board_out) (J x_flow_out) (Int32.toNatClampNeg (0 : Int32)) (Int32.toNatClampNeg (0 : Int32)) (Int32.toNatClampNeg (10 : Int32)))) fun J13 =>
  if (0 : Int32) < 0 ∨ (0 : Int32) < 0 ∨ (10 : Int32) < 0 ∨ 10 < Int32.toNatClampNeg (0 : Int32) + Int32.toNatClampNeg (10 : Int32) ∨ 10 < Int32.toNatClampNeg (0 : Int32) + Int32.toNatClampNeg (10 : Int32) then none else
  lb (ufj J13 x_flow_into (va_cpy (J13 x_board_into) (J13 x_flow_into) (Int32.toNatClampNeg (0 : Int32)) (Int32.toNatClampNeg (0 : Int32)) (Int32.toNatClampNeg (10 : Int32)))) fun J14 =>
  some ((), I12, J14)
set_option maxRecDepth 100000 in
theorem cm_X1_lay (b : Bool) (l1 : Int32) (l2 : Int32) (I : HI) (J : HJ) : CM mX1_lay 1 0 0 [.ref 17, .int l1, .int l2] (zs b, I, J) (fV (zs b)) (F_X1_lay l1 l2 I J) := by
  refine S.of okX1_lay pn_X1 (Nat.le_of_ble_eq_true rfl) ?_
  refine S.sub (lv' := [(0, .ref 17), (1, .int l1), (2, .int l2)]) [0, 1, 2] rfl ?_
  unfold F_X1_lay
  refine S.aload_n 0 0 rfl rfl ?_
  refine S.iload_n 1 1 rfl rfl ?_
  refine S.putI 2 rfl fo_X1_69 rfl rfl rfl rfl (fun _ hq => by cases hq; exact Or.inl rfl) (fun I8 => ?_)
  refine S.aload_n 3 0 rfl rfl ?_
  refine S.iload_n 4 2 rfl rfl ?_
  refine S.putI 5 rfl fo_X1_72 rfl rfl rfl rfl (fun _ hq => by cases hq; exact Or.inl rfl) (fun I9 => ?_)
  refine S.aload_n 6 0 rfl rfl ?_
  refine S.iconst (-1 : Int32) 7 rfl (by decide) ?_
  refine S.putI 8 rfl fo_X1_34 rfl rfl rfl rfl (fun _ hq => by cases hq; exact Or.inl rfl) (fun I10 => ?_)
  refine S.aload_n 9 0 rfl rfl ?_
  refine S.iconst (-1 : Int32) 10 rfl (by decide) ?_
  refine S.putI 11 rfl fo_X1_38 rfl rfl rfl rfl (fun _ hq => by cases hq; exact Or.inl rfl) (fun I11 => ?_)
  refine S.aload_n 12 0 rfl rfl ?_
  refine S.getR 13 rfl fo_X1_47 rfl rfl rfl ?_
  refine S.getR 14 rfl fo_X1_75 rfl rfl rfl ?_
  refine S.iconst (0 : Int32) 15 rfl (by decide) ?_
  refine S.aload_n 16 0 rfl rfl ?_
  refine S.getR 17 rfl fo_X1_9 rfl rfl rfl ?_
  refine S.iconst (0 : Int32) 18 rfl (by decide) ?_
  refine S.bipush (10 : Int32) 19 rfl (by decide) ?_
  refine S.copyi 20 rfl co_X1_78 w_ac1 w_ac2 w_ac3 rfl rfl (Nat.le_of_ble_eq_true rfl) (Nat.le_of_ble_eq_true rfl) (Nat.le_of_ble_eq_true rfl) (fun I12 => ?_)
  refine S.aload_n 21 0 rfl rfl ?_
  refine S.getR 22 rfl fo_X1_47 rfl rfl rfl ?_
  refine S.getR 23 rfl fo_X1_84 rfl rfl rfl ?_
  refine S.iconst (0 : Int32) 24 rfl (by decide) ?_
  refine S.aload_n 25 0 rfl rfl ?_
  refine S.getR 26 rfl fo_X1_15 rfl rfl rfl ?_
  refine S.iconst (0 : Int32) 27 rfl (by decide) ?_
  refine S.bipush (10 : Int32) 28 rfl (by decide) ?_
  refine S.copyl 29 rfl co_X1_78 w_ac1 w_ac2 w_ac3 rfl rfl (Nat.le_of_ble_eq_true rfl) (Nat.le_of_ble_eq_true rfl) (Nat.le_of_ble_eq_true rfl) (fun J13 => ?_)
  refine S.aload_n 30 0 rfl rfl ?_
  refine S.getR 31 rfl fo_X1_47 rfl rfl rfl ?_
  refine S.getR 32 rfl fo_X1_85 rfl rfl rfl ?_
  refine S.iconst (0 : Int32) 33 rfl (by decide) ?_
  refine S.aload_n 34 0 rfl rfl ?_
  refine S.getR 35 rfl fo_X1_19 rfl rfl rfl ?_
  refine S.iconst (0 : Int32) 36 rfl (by decide) ?_
  refine S.bipush (10 : Int32) 37 rfl (by decide) ?_
  refine S.copyl 38 rfl co_X1_78 w_ac1 w_ac2 w_ac3 rfl rfl (Nat.le_of_ble_eq_true rfl) (Nat.le_of_ble_eq_true rfl) (Nat.le_of_ble_eq_true rfl) (fun J14 => ?_)
  exact S.vret 39 rfl rfl (Nat.le_refl _) (Nat.le_refl _) rfl
def F_X1_putOut_L8 (I : HI) (kx46 : HJ → Option (Unit × HI × HJ)) : Nat → Int32 → HJ → Option (Unit × HI × HJ)
  | 0, _, _ => none
  | K+1, l1, J =>
    if l1 ≤ 0 then
      kx46 J
    else
      cp (F_J13_numberOfTrailingZeros_95d88 (J x_flow f_Flow_lit)) fun r4 =>
      bx r4 64 <|
      lb (uj J x_flow_light (Int32.toNatClampNeg r4) (0 : Int64)) fun J5 =>
      lb (uj J5 x_flow f_Flow_lit ((J5 x_flow f_Flow_lit) &&& ((J5 x_flow f_Flow_lit) - (1 : Int64)))) fun J6 =>
      F_X1_putOut_L8 I kx46 K (l1 + (-1)) J6
set_option maxRecDepth 100000 in
theorem s_X1_putOut_L8 (b : Bool) (I : HI) (kx46 : HJ → Option (Unit × HI × HJ)) (hkx46 : ∀ (J1 : HJ), S (fV (zs b)) mX1_putOut (rmd 3 0 0) 0 0 (0, 0) 46 [(0, .ref 17)] [] (zs b, I, J1) (kx46 J1)) : ∀ (K : Nat) (l1 : Int32) (J : HJ), S (fV (zs b)) mX1_putOut (rmd 3 0 0) 0 0 (0, 0) 8 [(0, .ref 17), (1, .int l1)] [] (zs b, I, J) (F_X1_putOut_L8 I kx46 K l1 J) := by
  intro K
  induction K with
  | zero => intro l1 J; exact S.none
  | succ K ih =>
    intro l1 J
    rw [F_X1_putOut_L8]
    refine S.iload_n 4 1 rfl rfl ?_
    refine S.if_le 46 5 rfl (by decide) (fun _ => ?_) (fun _ => ?_)
    · refine S.sub (lv' := [(0, .ref 17)]) [0] rfl ?_
      exact hkx46 _
    · refine S.aload_n 6 0 rfl rfl ?_
      refine S.getR 7 rfl fo_X1_22 rfl rfl rfl ?_
      refine S.aload_n 8 0 rfl rfl ?_
      refine S.getJ 9 rfl fo_X1_113 rfl rfl ?_
      refine S.qSI (d := 2) (av := [.long (J x_flow f_Flow_lit)]) (rs := [.long (J x_flow f_Flow_lit)]) 10 rfl co_X1_122 rfl rfl ⟨⟨Nat.le_of_ble_eq_true rfl, Nat.le_of_ble_eq_true rfl⟩, ⟨Nat.le_of_ble_eq_true rfl, Nat.le_of_ble_eq_true rfl⟩, Nat.le_of_ble_eq_true rfl⟩ (cm_J13_numberOfTrailingZeros_95d88 (zs b, I, J) (J x_flow f_Flow_lit)) (fun r4 => ?_)
      refine S.lconst (0 : Int64) 11 rfl (by decide) ?_
      refine S.last 12 rfl rfl (fun J5 => ?_)
      refine S.aload_n 13 0 rfl rfl ?_
      refine S.dup 14 rfl rfl ?_
      refine S.getJ 15 rfl fo_X1_113 rfl rfl ?_
      refine S.aload_n 16 0 rfl rfl ?_
      refine S.getJ 17 rfl fo_X1_113 rfl rfl ?_
      refine S.lconst (1 : Int64) 18 rfl (by decide) ?_
      refine S.lsub 19 rfl ?_
      refine S.land 20 rfl ?_
      refine S.putJ 21 rfl fo_X1_113 rfl rfl rfl rfl (fun _ hq => by cases hq; exact Or.inl rfl) (fun J6 => ?_)
      refine S.iinc (l1 + (-1)) [(1, .int (l1 + (-1))), (0, .ref 17)] 22 1 rfl rfl rfl (by decide) rfl ?_
      refine S.goto 8 23 rfl (by decide) ?_
      refine S.sub (lv' := [(0, .ref 17), (1, .int (l1 + (-1)))]) [1, 0] rfl ?_
      exact ih _ _
def F_X1_putOut  (I : HI) (J : HJ) : Option (Unit × HI × HJ) :=
  cp (F_J13_bitCount_95d88 (J x_flow f_Flow_lit)) fun r3 =>
  F_X1_putOut_L8 I (fun (J7 : HJ) =>
  cl (F_J7_fill_d0a16_22 (0 : Int64) I J7) fun _ I8 J9 =>
  some ((), I8, J9)) bgf r3 J
set_option maxRecDepth 100000 in
theorem cm_X1_putOut (b : Bool)  (I : HI) (J : HJ) : CM mX1_putOut 3 0 0 [.ref 17] (zs b, I, J) (fV (zs b)) (F_X1_putOut  I J) := by
  refine S.of okX1_putOut pn_X1 (Nat.le_of_ble_eq_true rfl) ?_
  refine S.sub (lv' := [(0, .ref 17)]) [0] rfl ?_
  unfold F_X1_putOut
  refine S.aload_n 0 0 rfl rfl ?_
  refine S.getJ 1 rfl fo_X1_113 rfl rfl ?_
  refine S.qSI (d := 1) (av := [.long (J x_flow f_Flow_lit)]) (rs := [.long (J x_flow f_Flow_lit)]) 2 rfl co_X1_116 rfl rfl ⟨⟨Nat.le_of_ble_eq_true rfl, Nat.le_of_ble_eq_true rfl⟩, ⟨Nat.le_of_ble_eq_true rfl, Nat.le_of_ble_eq_true rfl⟩, Nat.le_of_ble_eq_true rfl⟩ (cm_J13_bitCount_95d88 (zs b, I, J) (J x_flow f_Flow_lit)) (fun r3 => ?_)
  refine S.istore_n [(1, .int r3), (0, .ref 17)] 3 rfl (by decide) rfl ?_
  refine S.sub (lv' := [(0, .ref 17), (1, .int r3)]) [1, 0] rfl ?_
  refine s_X1_putOut_L8 b _ _ (fun J7 => ?_) bgf _ _
  refine S.aload_n 24 0 rfl rfl ?_
  refine S.getR 25 rfl fo_X1_25 rfl rfl rfl ?_
  refine S.lconst (0 : Int64) 26 rfl (by decide) ?_
  refine S.cSV (d := 1) (av := [.ref 22, .long (0 : Int64)]) (rs := [.long (0 : Int64), .ref 22]) 27 rfl co_X1_125 rfl rfl ⟨⟨Nat.le_of_ble_eq_true rfl, Nat.le_of_ble_eq_true rfl⟩, ⟨Nat.le_of_ble_eq_true rfl, Nat.le_of_ble_eq_true rfl⟩, Nat.le_of_ble_eq_true rfl⟩ (cm_J7_fill_d0a16_22 b (0 : Int64) I J7) (fun _ I8 J9 => ?_)
  exact S.vret 28 rfl rfl (Nat.le_refl _) (Nat.le_refl _) rfl
def F_X1_goalOf (l1 : Int32) (I : HI) (J : HJ) : Option Int32 :=
  lb (fun (y2 : Int32) =>
  if y2 = (I x_flow f_Flow_joined) then
    some (I x_flow f_Flow_joinedTo)
  else
    some y2) fun j3 =>
  if l1 = (I x_flow f_Flow_turned) then
    bx l1 64 <|
    j3 (I x_board_from (Int32.toNatClampNeg l1))
  else
    bx l1 64 <|
    j3 (I x_board_goal (Int32.toNatClampNeg l1))
set_option maxRecDepth 100000 in
theorem cm_X1_goalOf (b : Bool) (l1 : Int32) (I : HI) (J : HJ) : CM mX1_goalOf 1 0 0 [.ref 17, .int l1] (zs b, I, J) (pI (zs b, I, J)) (F_X1_goalOf l1 I J) := by
  refine S.of okX1_goalOf pn_X1 (Nat.le_of_ble_eq_true rfl) ?_
  refine S.sub (lv' := [(0, .ref 17), (1, .int l1)]) [0, 1] rfl ?_
  unfold F_X1_goalOf
  refine S.iload_n 0 1 rfl rfl ?_
  refine S.aload_n 1 0 rfl rfl ?_
  refine S.getI 2 rfl fo_X1_34 rfl rfl ?_
  refine S.jn (fun j => ∀ (y2 : Int32), S (pI (zs b, I, J)) mX1_goalOf (rmd 1 0 0) 0 0 (0, 0) 29 [(0, .ref 17)] [.int y2] (zs b, I, J) (j y2)) (fun y2 => ?_) (fun j3 hj3 => ?_)
  · refine S.istore_n [(2, .int y2), (0, .ref 17)] 15 rfl (by decide) rfl ?_
    refine S.iload_n 16 0 rfl rfl ?_
    refine S.aload_n 17 1 rfl rfl ?_
    refine S.getI 18 rfl fo_X1_38 rfl rfl ?_
    refine S.icmp_ne 45 19 rfl (by decide) (fun _ => ?_) (fun _ => ?_)
    · refine S.iload_n 23 0 rfl rfl ?_
      exact S.iret 24 rfl rfl rfl (Nat.le_refl _) (Nat.le_refl _) rfl
    · refine S.aload_n 20 1 rfl rfl ?_
      refine S.getI 21 rfl fo_X1_41 rfl rfl ?_
      refine S.goto 46 22 rfl (by decide) ?_
      exact S.iret 24 rfl rfl rfl (Nat.le_refl _) (Nat.le_refl _) rfl
  · refine S.icmp_ne 20 3 rfl (by decide) (fun _ => ?_) (fun _ => ?_)
    · refine S.aload_n 10 0 rfl rfl ?_
      refine S.getR 11 rfl fo_X1_47 rfl rfl rfl ?_
      refine S.getR 12 rfl fo_X1_91 rfl rfl rfl ?_
      refine S.iload_n 13 1 rfl rfl ?_
      refine S.iald 14 rfl rfl ?_
      refine S.sub (lv' := [(0, .ref 17)]) [0] rfl ?_
      exact hj3 _
    · refine S.aload_n 4 0 rfl rfl ?_
      refine S.getR 5 rfl fo_X1_47 rfl rfl rfl ?_
      refine S.getR 6 rfl fo_X1_88 rfl rfl rfl ?_
      refine S.iload_n 7 1 rfl rfl ?_
      refine S.iald 8 rfl rfl ?_
      refine S.goto 29 9 rfl (by decide) ?_
      refine S.sub (lv' := [(0, .ref 17)]) [0] rfl ?_
      exact hj3 _
def F_X1_noteWay_L70 (l1 : Int32) (l2 : Int64) (I : HI) (J : HJ) (kx135 : Int32 → Option (Unit × HI × HJ)) : Nat → Int32 → Int32 → Int32 → Option (Unit × HI × HJ)
  | 0, _, _, _ => none
  | K+1, l4, l5, l6 =>
    if l1 ≤ l6 then
      kx135 l4
    else
      if l5 = 0 then
        kx135 l4
      else
        bx l6 3 <|
        bx l6 3 <|
        lb (fun (y10 : Int32) =>
        bx l6 3 <|
        bx l6 3 <|
        lb (fun (y12 : Int32) =>
        F_X1_noteWay_L70 l1 l2 I J kx135 K y10 y12 (l6 + 1)) fun j13 =>
        if (I x_flow_way (Int32.toNatClampNeg l6)) = (I x_flow_bestWay (Int32.toNatClampNeg l6)) then
          j13 (1 : Int32)
        else
          j13 (0 : Int32)) fun j11 =>
        if (I x_flow_bestWay (Int32.toNatClampNeg l6)) ≤ (I x_flow_way (Int32.toNatClampNeg l6)) then
          j11 (0 : Int32)
        else
          j11 (1 : Int32)
set_option maxRecDepth 100000 in
theorem s_X1_noteWay_L70 (b : Bool) (l1 : Int32) (l2 : Int64) (I : HI) (J : HJ) (kx135 : Int32 → Option (Unit × HI × HJ)) (hkx135 : ∀ (y4 : Int32), S (fV (zs b)) mX1_noteWay (rmd 1 0 0) 0 0 (0, 0) 135 [(0, .ref 17), (1, .int l1), (2, .long l2), (4, .int y4)] [] (zs b, I, J) (kx135 y4)) : ∀ (K : Nat) (l4 : Int32) (l5 : Int32) (l6 : Int32), S (fV (zs b)) mX1_noteWay (rmd 1 0 0) 0 0 (0, 0) 70 [(0, .ref 17), (1, .int l1), (2, .long l2), (4, .int l4), (5, .int l5), (6, .int l6)] [] (zs b, I, J) (F_X1_noteWay_L70 l1 l2 I J kx135 K l4 l5 l6) := by
  intro K
  induction K with
  | zero => intro l4 l5 l6; exact S.none
  | succ K ih =>
    intro l4 l5 l6
    rw [F_X1_noteWay_L70]
    refine S.iload 39 5 rfl rfl ?_
    refine S.iload_n 40 1 rfl rfl ?_
    refine S.icmp_ge 135 41 rfl (by decide) (fun _ => ?_) (fun _ => ?_)
    · refine S.sub (lv' := [(0, .ref 17), (1, .int l1), (2, .long l2), (4, .int l4)]) [0, 1, 2, 3] rfl ?_
      exact hkx135 _
    · refine S.iload 42 4 rfl rfl ?_
      refine S.if_eq 135 43 rfl (by decide) (fun _ => ?_) (fun _ => ?_)
      · refine S.sub (lv' := [(0, .ref 17), (1, .int l1), (2, .long l2), (4, .int l4)]) [0, 1, 2, 3] rfl ?_
        exact hkx135 _
      · refine S.aload_n 44 0 rfl rfl ?_
        refine S.getR 45 rfl fo_X1_28 rfl rfl rfl ?_
        refine S.iload 46 5 rfl rfl ?_
        refine S.iald 47 rfl rfl ?_
        refine S.aload_n 48 0 rfl rfl ?_
        refine S.getR 49 rfl fo_X1_31 rfl rfl rfl ?_
        refine S.iload 50 5 rfl rfl ?_
        refine S.iald 51 rfl rfl ?_
        refine S.jn (fun j => ∀ (y10 : Int32), S (fV (zs b)) mX1_noteWay (rmd 1 0 0) 0 0 (0, 0) 103 [(0, .ref 17), (1, .int l1), (2, .long l2), (6, .int l6)] [.int y10] (zs b, I, J) (j y10)) (fun y10 => ?_) (fun j11 hj11 => ?_)
        · refine S.istore [(4, .int y10), (0, .ref 17), (1, .int l1), (2, .long l2), (6, .int l6)] 56 rfl (by decide) rfl ?_
          refine S.aload_n 57 1 rfl rfl ?_
          refine S.getR 58 rfl fo_X1_28 rfl rfl rfl ?_
          refine S.iload 59 4 rfl rfl ?_
          refine S.iald 60 rfl rfl ?_
          refine S.aload_n 61 1 rfl rfl ?_
          refine S.getR 62 rfl fo_X1_31 rfl rfl rfl ?_
          refine S.iload 63 4 rfl rfl ?_
          refine S.iald 64 rfl rfl ?_
          refine S.jn (fun j => ∀ (y12 : Int32), S (fV (zs b)) mX1_noteWay (rmd 1 0 0) 0 0 (0, 0) 127 [(0, .ref 17), (1, .int l1), (2, .long l2), (4, .int y10), (6, .int l6)] [.int y12] (zs b, I, J) (j y12)) (fun y12 => ?_) (fun j13 hj13 => ?_)
          · refine S.istore [(5, .int y12), (0, .ref 17), (1, .int l1), (2, .long l2), (4, .int y10), (6, .int l6)] 69 rfl (by decide) rfl ?_
            refine S.iinc (l6 + 1) [(6, .int (l6 + 1)), (5, .int y12), (0, .ref 17), (1, .int l1), (2, .long l2), (4, .int y10)] 70 5 rfl rfl rfl (by decide) rfl ?_
            refine S.goto 70 71 rfl (by decide) ?_
            refine S.sub (lv' := [(0, .ref 17), (1, .int l1), (2, .long l2), (4, .int y10), (5, .int y12), (6, .int (l6 + 1))]) [2, 3, 4, 5, 1, 0] rfl ?_
            exact ih _ _ _
          · refine S.icmp_ne 126 65 rfl (by decide) (fun _ => ?_) (fun _ => ?_)
            · refine S.iconst (0 : Int32) 68 rfl (by decide) ?_
              refine S.sub (lv' := [(0, .ref 17), (1, .int l1), (2, .long l2), (4, .int y10), (6, .int l6)]) [1, 2, 3, 0, 4] rfl ?_
              exact hj13 _
            · refine S.iconst (1 : Int32) 66 rfl (by decide) ?_
              refine S.goto 127 67 rfl (by decide) ?_
              refine S.sub (lv' := [(0, .ref 17), (1, .int l1), (2, .long l2), (4, .int y10), (6, .int l6)]) [1, 2, 3, 0, 4] rfl ?_
              exact hj13 _
        · refine S.icmp_ge 102 52 rfl (by decide) (fun _ => ?_) (fun _ => ?_)
          · refine S.iconst (0 : Int32) 55 rfl (by decide) ?_
            refine S.sub (lv' := [(0, .ref 17), (1, .int l1), (2, .long l2), (6, .int l6)]) [0, 1, 2, 5] rfl ?_
            exact hj11 _
          · refine S.iconst (1 : Int32) 53 rfl (by decide) ?_
            refine S.goto 103 54 rfl (by decide) ?_
            refine S.sub (lv' := [(0, .ref 17), (1, .int l1), (2, .long l2), (6, .int l6)]) [0, 1, 2, 5] rfl ?_
            exact hj11 _
def F_X1_noteWay_L154 (l1 : Int32) (J : HJ) : Nat → Int32 → HI → Option (Unit × HI × HJ)
  | 0, _, _ => none
  | K+1, l6, I =>
    if l1 ≤ l6 then
      some ((), I, J)
    else
      bx l6 3 <|
      bx l6 3 <|
      lb (ui I x_flow_bestWay (Int32.toNatClampNeg l6) (I x_flow_way (Int32.toNatClampNeg l6))) fun I17 =>
      F_X1_noteWay_L154 l1 J K (l6 + 1) I17
set_option maxRecDepth 100000 in
theorem s_X1_noteWay_L154 (b : Bool) (l1 : Int32) (J : HJ) : ∀ (K : Nat) (l6 : Int32) (I : HI), S (fV (zs b)) mX1_noteWay (rmd 1 0 0) 0 0 (0, 0) 154 [(0, .ref 17), (1, .int l1), (6, .int l6)] [] (zs b, I, J) (F_X1_noteWay_L154 l1 J K l6 I) := by
  intro K
  induction K with
  | zero => intro l6 I; exact S.none
  | succ K ih =>
    intro l6 I
    rw [F_X1_noteWay_L154]
    refine S.iload 83 2 rfl rfl ?_
    refine S.iload_n 84 1 rfl rfl ?_
    refine S.icmp_ge 180 85 rfl (by decide) (fun _ => ?_) (fun _ => ?_)
    · exact S.vret 96 rfl rfl (Nat.le_refl _) (Nat.le_refl _) rfl
    · refine S.aload_n 86 0 rfl rfl ?_
      refine S.getR 87 rfl fo_X1_31 rfl rfl rfl ?_
      refine S.iload 88 2 rfl rfl ?_
      refine S.aload_n 89 0 rfl rfl ?_
      refine S.getR 90 rfl fo_X1_28 rfl rfl rfl ?_
      refine S.iload 91 2 rfl rfl ?_
      refine S.iald 92 rfl rfl ?_
      refine S.iast 93 rfl rfl (fun I17 => ?_)
      refine S.iinc (l6 + 1) [(6, .int (l6 + 1)), (0, .ref 17), (1, .int l1)] 94 2 rfl rfl rfl (by decide) rfl ?_
      refine S.goto 154 95 rfl (by decide) ?_
      refine S.sub (lv' := [(0, .ref 17), (1, .int l1), (6, .int (l6 + 1))]) [1, 2, 0] rfl ?_
      exact ih _ _
def F_X1_noteWay (l1 : Int32) (l2 : Int64) (I : HI) (J : HJ) : Option (Unit × HI × HJ) :=
  lb (ui I x_flow f_Flow_passing ((I x_flow f_Flow_passing) + (1 : Int32))) fun I5 =>
  lb (fun (y6 : Int32) =>
  lb (fun (y8 : Int32) =>
  F_X1_noteWay_L70 l1 l2 I5 J (fun (y14 : Int32) =>
  if y14 = 0 then
    some ((), I5, J)
  else
    lb (uj J x_flow f_Flow_best l2) fun J15 =>
    lb (ui I5 x_flow f_Flow_bestSize l1) fun I16 =>
    F_X1_noteWay_L154 l1 J15 bgf (0 : Int32) I16) bgf y6 y8 (0 : Int32)) fun j9 =>
  lb (
  j9 (0 : Int32)) fun j18 =>
  if (lg_cmp l2 (J x_flow f_Flow_best)) = 0 then
    if l1 = (I5 x_flow f_Flow_bestSize) then
      j9 (1 : Int32)
    else
      j18
  else
    j18) fun j7 =>
  lb (
  j7 (1 : Int32)) fun j19 =>
  if 0 < (lg_cmp l2 (J x_flow f_Flow_best)) then
    j19
  else
    lb (
    j7 (0 : Int32)) fun j20 =>
    if (lg_cmp l2 (J x_flow f_Flow_best)) = 0 then
      if (I5 x_flow f_Flow_bestSize) ≤ l1 then
        j20
      else
        j19
    else
      j20
set_option maxRecDepth 100000 in
theorem cm_X1_noteWay (b : Bool) (l1 : Int32) (l2 : Int64) (I : HI) (J : HJ) : CM mX1_noteWay 1 0 0 [.ref 17, .int l1, .long l2] (zs b, I, J) (fV (zs b)) (F_X1_noteWay l1 l2 I J) := by
  refine S.of okX1_noteWay pn_X1 (Nat.le_of_ble_eq_true rfl) ?_
  refine S.sub (lv' := [(0, .ref 17), (1, .int l1), (2, .long l2)]) [0, 1, 2] rfl ?_
  unfold F_X1_noteWay
  refine S.aload_n 0 0 rfl rfl ?_
  refine S.dup 1 rfl rfl ?_
  refine S.getI 2 rfl fo_X1_59 rfl rfl ?_
  refine S.iconst (1 : Int32) 3 rfl (by decide) ?_
  refine S.iadd 4 rfl ?_
  refine S.putI 5 rfl fo_X1_59 rfl rfl rfl rfl (fun _ hq => by cases hq; exact Or.inl rfl) (fun I5 => ?_)
  refine S.lload_n 6 2 rfl rfl ?_
  refine S.aload_n 7 0 rfl rfl ?_
  refine S.getJ 8 rfl fo_X1_62 rfl rfl ?_
  refine S.lcmp 9 rfl ?_
  refine S.jn (fun j => ∀ (y6 : Int32), S (fV (zs b)) mX1_noteWay (rmd 1 0 0) 0 0 (0, 0) 41 [(0, .ref 17), (1, .int l1), (2, .long l2)] [.int y6] (zs b, I5, J) (j y6)) (fun y6 => ?_) (fun j7 hj7 => ?_)
  · refine S.istore [(4, .int y6), (0, .ref 17), (1, .int l1), (2, .long l2)] 23 rfl (by decide) rfl ?_
    refine S.lload_n 24 3 rfl rfl ?_
    refine S.aload_n 25 1 rfl rfl ?_
    refine S.getJ 26 rfl fo_X1_62 rfl rfl ?_
    refine S.lcmp 27 rfl ?_
    refine S.jn (fun j => ∀ (y8 : Int32), S (fV (zs b)) mX1_noteWay (rmd 1 0 0) 0 0 (0, 0) 65 [(0, .ref 17), (1, .int l1), (2, .long l2), (4, .int y6)] [.int y8] (zs b, I5, J) (j y8)) (fun y8 => ?_) (fun j9 hj9 => ?_)
    · refine S.istore [(5, .int y8), (0, .ref 17), (1, .int l1), (2, .long l2), (4, .int y6)] 36 rfl (by decide) rfl ?_
      refine S.iconst (0 : Int32) 37 rfl (by decide) ?_
      refine S.istore [(6, .int (0 : Int32)), (5, .int y8), (0, .ref 17), (1, .int l1), (2, .long l2), (4, .int y6)] 38 rfl (by decide) rfl ?_
      refine S.sub (lv' := [(0, .ref 17), (1, .int l1), (2, .long l2), (4, .int y6), (5, .int y8), (6, .int (0 : Int32))]) [2, 3, 4, 5, 1, 0] rfl ?_
      refine s_X1_noteWay_L70 b _ _ _ _ _ (fun y14 => ?_) bgf _ _ _
      refine S.iload 72 3 rfl rfl ?_
      refine S.if_ne 141 73 rfl (by decide) (fun _ => ?_) (fun _ => ?_)
      · refine S.aload_n 75 0 rfl rfl ?_
        refine S.lload_n 76 2 rfl rfl ?_
        refine S.putJ 77 rfl fo_X1_62 rfl rfl rfl rfl (fun _ hq => by cases hq; exact Or.inl rfl) (fun J15 => ?_)
        refine S.aload_n 78 0 rfl rfl ?_
        refine S.iload_n 79 1 rfl rfl ?_
        refine S.putI 80 rfl fo_X1_66 rfl rfl rfl rfl (fun _ hq => by cases hq; exact Or.inl rfl) (fun I16 => ?_)
        refine S.iconst (0 : Int32) 81 rfl (by decide) ?_
        refine S.istore [(6, .int (0 : Int32)), (0, .ref 17), (1, .int l1), (2, .long l2), (4, .int y14)] 82 rfl (by decide) rfl ?_
        refine S.sub (lv' := [(0, .ref 17), (1, .int l1), (6, .int (0 : Int32))]) [1, 2, 0] rfl ?_
        refine s_X1_noteWay_L154 b _ _ bgf _ _
      · exact S.vret 74 rfl rfl (Nat.le_refl _) (Nat.le_refl _) rfl
    · refine S.jn (fun j => S (fV (zs b)) mX1_noteWay (rmd 1 0 0) 0 0 (0, 0) 64 [(0, .ref 17), (1, .int l1), (2, .long l2), (4, .int y6)] [] (zs b, I5, J) (j)) ?_ (fun j18 hj18 => ?_)
      · refine S.iconst (0 : Int32) 35 rfl (by decide) ?_
        exact hj9 _
      · refine S.if_ne 64 28 rfl (by decide) (fun _ => ?_) (fun _ => ?_)
        · refine S.sub (lv' := [(0, .ref 17), (1, .int l1), (2, .long l2), (4, .int y6)]) [1, 2, 3, 0] rfl ?_
          exact hj18
        · refine S.iload_n 29 2 rfl rfl ?_
          refine S.aload_n 30 1 rfl rfl ?_
          refine S.getI 31 rfl fo_X1_66 rfl rfl ?_
          refine S.icmp_ne 64 32 rfl (by decide) (fun _ => ?_) (fun _ => ?_)
          · refine S.sub (lv' := [(0, .ref 17), (1, .int l1), (2, .long l2), (4, .int y6)]) [1, 2, 3, 0] rfl ?_
            exact hj18
          · refine S.iconst (1 : Int32) 33 rfl (by decide) ?_
            refine S.goto 65 34 rfl (by decide) ?_
            refine S.sub (lv' := [(0, .ref 17), (1, .int l1), (2, .long l2), (4, .int y6)]) [1, 2, 3, 0] rfl ?_
            exact hj9 _
  · refine S.jn (fun j => S (fV (zs b)) mX1_noteWay (rmd 1 0 0) 0 0 (0, 0) 36 [(0, .ref 17), (1, .int l1), (2, .long l2)] [] (zs b, I5, J) (j)) ?_ (fun j19 hj19 => ?_)
    · refine S.iconst (1 : Int32) 20 rfl (by decide) ?_
      refine S.goto 41 21 rfl (by decide) ?_
      exact hj7 _
    · refine S.if_gt 36 10 rfl (by decide) (fun _ => ?_) (fun _ => ?_)
      · exact hj19
      · refine S.lload_n 11 2 rfl rfl ?_
        refine S.aload_n 12 0 rfl rfl ?_
        refine S.getJ 13 rfl fo_X1_62 rfl rfl ?_
        refine S.lcmp 14 rfl ?_
        refine S.jn (fun j => S (fV (zs b)) mX1_noteWay (rmd 1 0 0) 0 0 (0, 0) 40 [(0, .ref 17), (1, .int l1), (2, .long l2)] [] (zs b, I5, J) (j)) ?_ (fun j20 hj20 => ?_)
        · refine S.iconst (0 : Int32) 22 rfl (by decide) ?_
          exact hj7 _
        · refine S.if_ne 40 15 rfl (by decide) (fun _ => ?_) (fun _ => ?_)
          · exact hj20
          · refine S.iload_n 16 1 rfl rfl ?_
            refine S.aload_n 17 0 rfl rfl ?_
            refine S.getI 18 rfl fo_X1_66 rfl rfl ?_
            refine S.icmp_ge 40 19 rfl (by decide) (fun _ => ?_) (fun _ => ?_)
            · exact hj20
            · exact hj19
def F_X1_carry_L52 (l1 : Int32) (l2 : Int32) (l3 : Int32) (l6 : Int64) (I : HI) (kx123 : Int32 → HJ → Option (Unit × HI × HJ)) : Nat → Int32 → Int32 → HJ → Option (Unit × HI × HJ)
  | 0, _, _, _ => none
  | K+1, l8, l9, J =>
    if l3 ≤ l9 then
      kx123 l8 J
    else
      bx l9 3 <|
      bx (I x_flow_way (Int32.toNatClampNeg l9)) 64 <|
      bx (I x_flow_way (Int32.toNatClampNeg l9)) 64 <|
      lb (uj J x_flow_light (Int32.toNatClampNeg (I x_flow_way (Int32.toNatClampNeg l9))) ((J x_flow_light (Int32.toNatClampNeg (I x_flow_way (Int32.toNatClampNeg l9)))) + l6)) fun J10 =>
      bx l9 3 <|
      lb (uj J10 x_flow f_Flow_lit ((J10 x_flow f_Flow_lit) ||| (olshl (1 : Int64) (I x_flow_way (Int32.toNatClampNeg l9))))) fun J11 =>
      bx l9 3 <|
      lb (fun (y12 : Int32) (y13 : Int32) =>
      lb ((y12 ||| y13)) fun x15 =>
      F_X1_carry_L52 l1 l2 l3 l6 I kx123 K x15 (l9 + 1) J11) fun j14 =>
      if (I x_flow_way (Int32.toNatClampNeg l9)) = (I x_flow f_Flow_watched) then
        j14 l8 (1 : Int32)
      else
        j14 l8 (0 : Int32)
set_option maxRecDepth 100000 in
theorem s_X1_carry_L52 (b : Bool) (l1 : Int32) (l2 : Int32) (l3 : Int32) (l6 : Int64) (I : HI) (kx123 : Int32 → HJ → Option (Unit × HI × HJ)) (hkx123 : ∀ (y8 : Int32) (J1 : HJ), S (fV (zs b)) mX1_carry (rmd 2 0 0) 0 0 (0, 0) 123 [(0, .ref 17), (1, .int l1), (2, .int l2), (3, .int l3), (6, .long l6), (8, .int y8)] [] (zs b, I, J1) (kx123 y8 J1)) : ∀ (K : Nat) (l8 : Int32) (l9 : Int32) (J : HJ), S (fV (zs b)) mX1_carry (rmd 2 0 0) 0 0 (0, 0) 52 [(0, .ref 17), (1, .int l1), (2, .int l2), (3, .int l3), (6, .long l6), (8, .int l8), (9, .int l9)] [] (zs b, I, J) (F_X1_carry_L52 l1 l2 l3 l6 I kx123 K l8 l9 J) := by
  intro K
  induction K with
  | zero => intro l8 l9 J; exact S.none
  | succ K ih =>
    intro l8 l9 J
    rw [F_X1_carry_L52]
    refine S.iload 32 6 rfl rfl ?_
    refine S.iload_n 33 3 rfl rfl ?_
    refine S.icmp_ge 123 34 rfl (by decide) (fun _ => ?_) (fun _ => ?_)
    · refine S.sub (lv' := [(0, .ref 17), (1, .int l1), (2, .int l2), (3, .int l3), (6, .long l6), (8, .int l8)]) [0, 1, 2, 3, 4, 5] rfl ?_
      exact hkx123 _ _
    · refine S.aload_n 35 0 rfl rfl ?_
      refine S.getR 36 rfl fo_X1_22 rfl rfl rfl ?_
      refine S.aload_n 37 0 rfl rfl ?_
      refine S.getR 38 rfl fo_X1_28 rfl rfl rfl ?_
      refine S.iload 39 6 rfl rfl ?_
      refine S.iald 40 rfl rfl ?_
      refine S.dup2_11 41 rfl rfl rfl ?_
      refine S.lald 42 rfl rfl ?_
      refine S.lload 43 4 rfl rfl ?_
      refine S.ladd 44 rfl ?_
      refine S.last 45 rfl rfl (fun J10 => ?_)
      refine S.aload_n 46 0 rfl rfl ?_
      refine S.dup 47 rfl rfl ?_
      refine S.getJ 48 rfl fo_X1_113 rfl rfl ?_
      refine S.lconst (1 : Int64) 49 rfl (by decide) ?_
      refine S.aload_n 50 0 rfl rfl ?_
      refine S.getR 51 rfl fo_X1_28 rfl rfl rfl ?_
      refine S.iload 52 6 rfl rfl ?_
      refine S.iald 53 rfl rfl ?_
      refine S.lshl 54 rfl ?_
      refine S.lor 55 rfl ?_
      refine S.putJ 56 rfl fo_X1_113 rfl rfl rfl rfl (fun _ hq => by cases hq; exact Or.inl rfl) (fun J11 => ?_)
      refine S.iload 57 5 rfl rfl ?_
      refine S.aload_n 58 0 rfl rfl ?_
      refine S.getR 59 rfl fo_X1_28 rfl rfl rfl ?_
      refine S.iload 60 6 rfl rfl ?_
      refine S.iald 61 rfl rfl ?_
      refine S.aload_n 62 0 rfl rfl ?_
      refine S.getI 63 rfl fo_X1_44 rfl rfl ?_
      refine S.jn (fun j => ∀ (y12 : Int32) (y13 : Int32), S (fV (zs b)) mX1_carry (rmd 2 0 0) 0 0 (0, 0) 114 [(0, .ref 17), (1, .int l1), (2, .int l2), (3, .int l3), (6, .long l6), (9, .int l9)] [.int y13, .int y12] (zs b, I, J11) (j y12 y13)) (fun y12 y13 => ?_) (fun j14 hj14 => ?_)
      · refine S.ior 68 rfl ?_
        refine S.nmi (fun x15 => ?_)
        refine S.istore [(8, .int x15), (0, .ref 17), (1, .int l1), (2, .int l2), (3, .int l3), (6, .long l6), (9, .int l9)] 69 rfl (by decide) rfl ?_
        refine S.iinc (l9 + 1) [(9, .int (l9 + 1)), (8, .int x15), (0, .ref 17), (1, .int l1), (2, .int l2), (3, .int l3), (6, .long l6)] 70 6 rfl rfl rfl (by decide) rfl ?_
        refine S.goto 52 71 rfl (by decide) ?_
        refine S.sub (lv' := [(0, .ref 17), (1, .int l1), (2, .int l2), (3, .int l3), (6, .long l6), (8, .int x15), (9, .int (l9 + 1))]) [2, 3, 4, 5, 6, 1, 0] rfl ?_
        exact ih _ _ _
      · refine S.icmp_ne 113 64 rfl (by decide) (fun _ => ?_) (fun _ => ?_)
        · refine S.iconst (0 : Int32) 67 rfl (by decide) ?_
          refine S.sub (lv' := [(0, .ref 17), (1, .int l1), (2, .int l2), (3, .int l3), (6, .long l6), (9, .int l9)]) [0, 1, 2, 3, 4, 6] rfl ?_
          exact hj14 _ _
        · refine S.iconst (1 : Int32) 65 rfl (by decide) ?_
          refine S.goto 114 66 rfl (by decide) ?_
          refine S.sub (lv' := [(0, .ref 17), (1, .int l1), (2, .int l2), (3, .int l3), (6, .long l6), (9, .int l9)]) [0, 1, 2, 3, 4, 6] rfl ?_
          exact hj14 _ _
def F_X1_carry (l1 : Int32) (l2 : Int32) (l3 : Int32) (l4 : Int32) (I : HI) (J : HJ) : Option (Unit × HI × HJ) :=
  bx l1 10 <|
  bx l2 10 <|
  lb ((((I x_flow_ohms (Int32.toNatClampNeg l1)) + (I x_flow_ohms (Int32.toNatClampNeg l2))) + l3)) fun x8 =>
  if x8 < (1 : Int32) then
    some ((), I, J)
  else
    if x8 < (12 : Int32) then
      bx x8 12 <|
      lb (((Int32.toInt64 l4) * (Int32.toInt64 (shI (Int32.toNatClampNeg x8))))) fun x9 =>
      F_X1_carry_L52 l1 l2 l3 x9 I (fun (y16 : Int32) (J17 : HJ) =>
      bx l1 10 <|
      bx l1 10 <|
      lb (uj J17 x_flow_drawn (Int32.toNatClampNeg l1) ((J17 x_flow_drawn (Int32.toNatClampNeg l1)) + x9)) fun J18 =>
      bx l2 10 <|
      bx l2 10 <|
      lb (uj J18 x_flow_drawn (Int32.toNatClampNeg l2) ((J18 x_flow_drawn (Int32.toNatClampNeg l2)) + x9)) fun J19 =>
      if y16 = 0 then
        some ((), I, J19)
      else
        cl (F_X1_noteWay l3 x9 I J19) fun _ I20 J21 =>
        some ((), I20, J21)) bgf (0 : Int32) (0 : Int32) J
    else
      some ((), I, J)
set_option maxRecDepth 100000 in
theorem cm_X1_carry (b : Bool) (l1 : Int32) (l2 : Int32) (l3 : Int32) (l4 : Int32) (I : HI) (J : HJ) : CM mX1_carry 2 0 0 [.ref 17, .int l1, .int l2, .int l3, .int l4] (zs b, I, J) (fV (zs b)) (F_X1_carry l1 l2 l3 l4 I J) := by
  refine S.of okX1_carry pn_X1 (Nat.le_of_ble_eq_true rfl) ?_
  refine S.sub (lv' := [(0, .ref 17), (1, .int l1), (2, .int l2), (3, .int l3), (4, .int l4)]) [0, 1, 2, 3, 4] rfl ?_
  unfold F_X1_carry
  refine S.aload_n 0 0 rfl rfl ?_
  refine S.getR 1 rfl fo_X1_9 rfl rfl rfl ?_
  refine S.iload_n 2 1 rfl rfl ?_
  refine S.iald 3 rfl rfl ?_
  refine S.aload_n 4 0 rfl rfl ?_
  refine S.getR 5 rfl fo_X1_9 rfl rfl rfl ?_
  refine S.iload_n 6 2 rfl rfl ?_
  refine S.iald 7 rfl rfl ?_
  refine S.iadd 8 rfl ?_
  refine S.iload_n 9 3 rfl rfl ?_
  refine S.iadd 10 rfl ?_
  refine S.nmi (fun x8 => ?_)
  refine S.istore [(5, .int x8), (0, .ref 17), (1, .int l1), (2, .int l2), (3, .int l3), (4, .int l4)] 11 rfl (by decide) rfl ?_
  refine S.iload 12 0 rfl rfl ?_
  refine S.iconst (1 : Int32) 13 rfl (by decide) ?_
  refine S.icmp_lt 32 14 rfl (by decide) (fun _ => ?_) (fun _ => ?_)
  · exact S.vret 19 rfl rfl (Nat.le_refl _) (Nat.le_refl _) rfl
  · refine S.iload 15 0 rfl rfl ?_
    refine S.gets 16 rfl fo_X1_147 ?_
    refine S.shlen 17 rfl ?_
    refine S.icmp_lt 33 18 rfl (by decide) (fun _ => ?_) (fun _ => ?_)
    · refine S.iload 20 5 rfl rfl ?_
      refine S.i2l 21 rfl ?_
      refine S.gets 22 rfl fo_X1_147 ?_
      refine S.iload 23 0 rfl rfl ?_
      refine S.shld 24 rfl ?_
      refine S.i2l 25 rfl ?_
      refine S.lmul 26 rfl ?_
      refine S.nml (fun x9 => ?_)
      refine S.lstore [(6, .long x9), (5, .int x8), (0, .ref 17), (1, .int l1), (2, .int l2), (3, .int l3), (4, .int l4)] 27 rfl (by decide) rfl ?_
      refine S.iconst (0 : Int32) 28 rfl (by decide) ?_
      refine S.istore [(8, .int (0 : Int32)), (6, .long x9), (5, .int x8), (0, .ref 17), (1, .int l1), (2, .int l2), (3, .int l3), (4, .int l4)] 29 rfl (by decide) rfl ?_
      refine S.iconst (0 : Int32) 30 rfl (by decide) ?_
      refine S.istore [(9, .int (0 : Int32)), (8, .int (0 : Int32)), (6, .long x9), (5, .int x8), (0, .ref 17), (1, .int l1), (2, .int l2), (3, .int l3), (4, .int l4)] 31 rfl (by decide) rfl ?_
      refine S.sub (lv' := [(0, .ref 17), (1, .int l1), (2, .int l2), (3, .int l3), (6, .long x9), (8, .int (0 : Int32)), (9, .int (0 : Int32))]) [4, 5, 6, 7, 2, 1, 0] rfl ?_
      refine s_X1_carry_L52 b _ _ _ _ _ _ (fun y16 J17 => ?_) bgf _ _ _
      refine S.aload_n 72 0 rfl rfl ?_
      refine S.getR 73 rfl fo_X1_25 rfl rfl rfl ?_
      refine S.iload_n 74 1 rfl rfl ?_
      refine S.dup2_11 75 rfl rfl rfl ?_
      refine S.lald 76 rfl rfl ?_
      refine S.lload 77 4 rfl rfl ?_
      refine S.ladd 78 rfl ?_
      refine S.last 79 rfl rfl (fun J18 => ?_)
      refine S.aload_n 80 0 rfl rfl ?_
      refine S.getR 81 rfl fo_X1_25 rfl rfl rfl ?_
      refine S.iload_n 82 2 rfl rfl ?_
      refine S.dup2_11 83 rfl rfl rfl ?_
      refine S.lald 84 rfl rfl ?_
      refine S.lload 85 4 rfl rfl ?_
      refine S.ladd 86 rfl ?_
      refine S.last 87 rfl rfl (fun J19 => ?_)
      refine S.iload 88 5 rfl rfl ?_
      refine S.if_eq 157 89 rfl (by decide) (fun _ => ?_) (fun _ => ?_)
      · exact S.vret 94 rfl rfl (Nat.le_refl _) (Nat.le_refl _) rfl
      · refine S.aload_n 90 0 rfl rfl ?_
        refine S.iload_n 91 3 rfl rfl ?_
        refine S.lload 92 4 rfl rfl ?_
        refine S.cVV (d := 1) (av := [.int l3, .long x9]) (rs := [.long x9, .int l3]) (b := 17) 93 rfl co_X1_150 rfl rfl rfl rfl rfl ⟨⟨Nat.le_of_ble_eq_true rfl, Nat.le_of_ble_eq_true rfl⟩, ⟨Nat.le_of_ble_eq_true rfl, Nat.le_of_ble_eq_true rfl⟩, Nat.le_of_ble_eq_true rfl⟩ (cm_X1_noteWay b l3 x9 I J19) (fun _ I20 J21 => ?_)
        exact S.vret 94 rfl rfl (Nat.le_refl _) (Nat.le_refl _) rfl
    · exact S.vret 19 rfl rfl (Nat.le_refl _) (Nat.le_refl _) rfl
def F_X1_follow_L78 (rc : Int32 → Int32 → Int32 → Int32 → HI → HJ → Option (Unit × HI × HJ)) (l1 : Int32) (l3 : Int32) (l4 : Int32) : Nat → Int64 → Int32 → HI → HJ → Option (Unit × HI × HJ)
  | 0, _, _, _, _ => none
  | K+1, l6, l8, I, J =>
    if l8 ≤ 0 then
      some ((), I, J)
    else
      cp (F_J13_numberOfTrailingZeros_95d88 l6) fun r12 =>
      lb ((l6 &&& (l6 - (1 : Int64)))) fun x13 =>
      bx r12 64 <|
      lb ((l4 + (I x_board_volts (Int32.toNatClampNeg r12)))) fun x14 =>
      lb (fun (I15 : HI) (J16 : HJ) =>
      F_X1_follow_L78 rc l1 l3 l4 K x13 (l8 + (-1)) I15 J16) fun j17 =>
      if x14 < (I x_board f_Board_supply) then
        bx l3 3 <|
        lb (ui I x_flow_way (Int32.toNatClampNeg l3) r12) fun I18 =>
        if (lg_cmp ((olushr (J x_flow f_Flow_toLow) r12) &&& (1 : Int64)) (0 : Int64)) = 0 then
          cp (F_X1_goalOf r12 I18 J) fun r19 =>
          cl (rc l1 r19 (l3 + (1 : Int32)) x14 I18 J) fun _ I20 J21 =>
          j17 I20 J21
        else
          cp (F_X1_goalOf r12 I18 J) fun r22 =>
          cl (F_X1_carry l1 r22 (l3 + (1 : Int32)) ((I18 x_board f_Board_supply) - x14) I18 J) fun _ I23 J24 =>
          j17 I23 J24
      else
        j17 I J
set_option maxRecDepth 100000 in
theorem s_X1_follow_L78 (b : Bool) (rc : Int32 → Int32 → Int32 → Int32 → HI → HJ → Option (Unit × HI × HJ)) (dn : Nat) (hdn : 2 ≤ dn) (hrc : ∀ (a0 : Int32) (a1 : Int32) (a2 : Int32) (a3 : Int32) (I : HI) (J : HJ), CM mX1_follow dn 0 0 [.ref 17, .int a0, .int a1, .int a2, .int a3] (zs b, I, J) (fV (zs b)) (rc a0 a1 a2 a3 I J)) (l1 : Int32) (l3 : Int32) (l4 : Int32) : ∀ (K : Nat) (l6 : Int64) (l8 : Int32) (I : HI) (J : HJ), S (fV (zs b)) mX1_follow (rmd (dn + 1) 0 0) 0 0 (0, 0) 78 [(0, .ref 17), (1, .int l1), (3, .int l3), (4, .int l4), (6, .long l6), (8, .int l8)] [] (zs b, I, J) (F_X1_follow_L78 rc l1 l3 l4 K l6 l8 I J) := by
  intro K
  induction K with
  | zero => intro l6 l8 I J; exact S.none
  | succ K ih =>
    intro l6 l8 I J
    rw [F_X1_follow_L78]
    refine S.iload 41 5 rfl rfl ?_
    refine S.if_le 200 42 rfl (by decide) (fun _ => ?_) (fun _ => ?_)
    · exact S.vret 107 rfl rfl (Nat.le_refl _) (Nat.le_refl _) rfl
    · refine S.lload 43 4 rfl rfl ?_
      refine S.qSI (d := 2) (av := [.long l6]) (rs := [.long l6]) 44 rfl co_X1_122 rfl rfl ⟨⟨by show 2 + 1 ≤ dn + 1; omega, by show 8 + (3 + 11) + 64 * (2) ≤ 64 * (dn + 1); omega⟩, ⟨Nat.le_refl _, Nat.le_refl _⟩, Nat.le_of_ble_eq_true rfl⟩ (cm_J13_numberOfTrailingZeros_95d88 (zs b, I, J) l6) (fun r12 => ?_)
      refine S.istore [(9, .int r12), (0, .ref 17), (1, .int l1), (3, .int l3), (4, .int l4), (6, .long l6), (8, .int l8)] 45 rfl (by decide) rfl ?_
      refine S.lload 46 5 rfl rfl ?_
      refine S.lload 47 5 rfl rfl ?_
      refine S.lconst (1 : Int64) 48 rfl (by decide) ?_
      refine S.lsub 49 rfl ?_
      refine S.land 50 rfl ?_
      refine S.nml (fun x13 => ?_)
      refine S.lstore [(6, .long x13), (9, .int r12), (0, .ref 17), (1, .int l1), (3, .int l3), (4, .int l4), (8, .int l8)] 51 rfl (by decide) rfl ?_
      refine S.iload 52 5 rfl rfl ?_
      refine S.aload_n 53 2 rfl rfl ?_
      refine S.getR 54 rfl fo_X1_47 rfl rfl rfl ?_
      refine S.getR 55 rfl fo_X1_134 rfl rfl rfl ?_
      refine S.iload 56 1 rfl rfl ?_
      refine S.iald 57 rfl rfl ?_
      refine S.iadd 58 rfl ?_
      refine S.nmi (fun x14 => ?_)
      refine S.istore [(10, .int x14), (6, .long x13), (9, .int r12), (0, .ref 17), (1, .int l1), (3, .int l3), (4, .int l4), (8, .int l8)] 59 rfl (by decide) rfl ?_
      refine S.iload 60 0 rfl rfl ?_
      refine S.aload_n 61 3 rfl rfl ?_
      refine S.getR 62 rfl fo_X1_47 rfl rfl rfl ?_
      refine S.getI 63 rfl fo_X1_137 rfl rfl ?_
      refine S.jn (fun j => ∀ (I15 : HI) (J16 : HJ), S (fV (zs b)) mX1_follow (rmd (dn + 1) 0 0) 0 0 (0, 0) 194 [(0, .ref 17), (1, .int l1), (3, .int l3), (4, .int l4), (6, .long x13), (8, .int l8)] [] (zs b, I15, J16) (j I15 J16)) (fun I15 J16 => ?_) (fun j17 hj17 => ?_)
      · refine S.iinc (l8 + (-1)) [(8, .int (l8 + (-1))), (0, .ref 17), (1, .int l1), (3, .int l3), (4, .int l4), (6, .long x13)] 105 5 rfl rfl rfl (by decide) rfl ?_
        refine S.goto 78 106 rfl (by decide) ?_
        refine S.sub (lv' := [(0, .ref 17), (1, .int l1), (3, .int l3), (4, .int l4), (6, .long x13), (8, .int (l8 + (-1)))]) [1, 2, 3, 4, 5, 0] rfl ?_
        exact ih _ _ _ _
      · refine S.icmp_lt 129 64 rfl (by decide) (fun _ => ?_) (fun _ => ?_)
        · refine S.aload_n 66 3 rfl rfl ?_
          refine S.getR 67 rfl fo_X1_28 rfl rfl rfl ?_
          refine S.iload_n 68 5 rfl rfl ?_
          refine S.iload 69 2 rfl rfl ?_
          refine S.iast 70 rfl rfl (fun I18 => ?_)
          refine S.aload_n 71 3 rfl rfl ?_
          refine S.getJ 72 rfl fo_X1_97 rfl rfl ?_
          refine S.iload 73 2 rfl rfl ?_
          refine S.lushr 74 rfl ?_
          refine S.lconst (1 : Int64) 75 rfl (by decide) ?_
          refine S.land 76 rfl ?_
          refine S.lconst (0 : Int64) 77 rfl (by decide) ?_
          refine S.lcmp 78 rfl ?_
          refine S.if_eq 178 79 rfl (by decide) (fun _ => ?_) (fun _ => ?_)
          · refine S.aload_n 95 3 rfl rfl ?_
            refine S.iload_n 96 4 rfl rfl ?_
            refine S.aload_n 97 3 rfl rfl ?_
            refine S.iload 98 2 rfl rfl ?_
            refine S.qVI (d := 1) (av := [.int r12]) (rs := [.int r12]) (b := 17) 99 rfl co_X1_140 rfl rfl rfl rfl rfl ⟨⟨by show 1 + 1 ≤ dn + 1; omega, by show 8 + (3 + 11) + 64 * (1) ≤ 64 * (dn + 1); omega⟩, ⟨Nat.le_refl _, Nat.le_refl _⟩, Nat.le_of_ble_eq_true rfl⟩ (cm_X1_goalOf b r12 I18 J) (fun r19 => ?_)
            refine S.iload_n 100 5 rfl rfl ?_
            refine S.iconst (1 : Int32) 101 rfl (by decide) ?_
            refine S.iadd 102 rfl ?_
            refine S.iload 103 0 rfl rfl ?_
            refine S.cVV (d := dn) (av := [.int l1, .int r19, .int (l3 + (1 : Int32)), .int x14]) (rs := [.int x14, .int (l3 + (1 : Int32)), .int r19, .int l1]) (b := 17) 104 rfl co_X1_106 rfl rfl rfl rfl rfl ⟨⟨by show dn + 1 ≤ dn + 1; omega, by show 8 + (11 + 11) + 64 * (dn) ≤ 64 * (dn + 1); omega⟩, ⟨Nat.le_refl _, Nat.le_refl _⟩, Nat.le_of_ble_eq_true rfl⟩ (hrc l1 r19 (l3 + (1 : Int32)) x14 I18 J) (fun _ I20 J21 => ?_)
            refine S.sub (lv' := [(0, .ref 17), (1, .int l1), (3, .int l3), (4, .int l4), (6, .long x13), (8, .int l8)]) [3, 4, 5, 6, 1, 7] rfl ?_
            exact hj17 _ _
          · refine S.aload_n 80 3 rfl rfl ?_
            refine S.iload_n 81 4 rfl rfl ?_
            refine S.aload_n 82 3 rfl rfl ?_
            refine S.iload 83 2 rfl rfl ?_
            refine S.qVI (d := 1) (av := [.int r12]) (rs := [.int r12]) (b := 17) 84 rfl co_X1_140 rfl rfl rfl rfl rfl ⟨⟨by show 1 + 1 ≤ dn + 1; omega, by show 8 + (3 + 11) + 64 * (1) ≤ 64 * (dn + 1); omega⟩, ⟨Nat.le_refl _, Nat.le_refl _⟩, Nat.le_of_ble_eq_true rfl⟩ (cm_X1_goalOf b r12 I18 J) (fun r22 => ?_)
            refine S.iload_n 85 5 rfl rfl ?_
            refine S.iconst (1 : Int32) 86 rfl (by decide) ?_
            refine S.iadd 87 rfl ?_
            refine S.aload_n 88 3 rfl rfl ?_
            refine S.getR 89 rfl fo_X1_47 rfl rfl rfl ?_
            refine S.getI 90 rfl fo_X1_137 rfl rfl ?_
            refine S.iload 91 0 rfl rfl ?_
            refine S.isub 92 rfl ?_
            refine S.cVV (d := 2) (av := [.int l1, .int r22, .int (l3 + (1 : Int32)), .int ((I18 x_board f_Board_supply) - x14)]) (rs := [.int ((I18 x_board f_Board_supply) - x14), .int (l3 + (1 : Int32)), .int r22, .int l1]) (b := 17) 93 rfl co_X1_144 rfl rfl rfl rfl rfl ⟨⟨by show 2 + 1 ≤ dn + 1; omega, by show 8 + (10 + 11) + 64 * (2) ≤ 64 * (dn + 1); omega⟩, ⟨Nat.le_refl _, Nat.le_refl _⟩, Nat.le_of_ble_eq_true rfl⟩ (cm_X1_carry b l1 r22 (l3 + (1 : Int32)) ((I18 x_board f_Board_supply) - x14) I18 J) (fun _ I23 J24 => ?_)
            refine S.goto 194 94 rfl (by decide) ?_
            refine S.sub (lv' := [(0, .ref 17), (1, .int l1), (3, .int l3), (4, .int l4), (6, .long x13), (8, .int l8)]) [3, 4, 5, 6, 1, 7] rfl ?_
            exact hj17 _ _
        · refine S.goto 194 65 rfl (by decide) ?_
          refine S.sub (lv' := [(0, .ref 17), (1, .int l1), (3, .int l3), (4, .int l4), (6, .long x13), (8, .int l8)]) [3, 4, 5, 6, 1, 7] rfl ?_
          exact hj17 _ _
def F_X1_follow_B (rc : Int32 → Int32 → Int32 → Int32 → HI → HJ → Option (Unit × HI × HJ)) (l1 : Int32) (l2 : Int32) (l3 : Int32) (l4 : Int32) (I : HI) (J : HJ) : Option (Unit × HI × HJ) :=
  if (I x_board f_Board_depth) ≤ l3 then
    some ((), I, J)
  else
    if l3 < (3 : Int32) then
      lb (fun (y5 : Int32) =>
      bx l2 10 <|
      lb (fun (y7 : Int64) (y8 : Int64) =>
      lb ((y7 &&& y8)) fun x10 =>
      cp (F_J13_bitCount_95d88 x10) fun r11 =>
      F_X1_follow_L78 rc l1 l3 l4 bgf x10 r11 I J) fun j9 =>
      if y5 = 0 then
        j9 (J x_flow_out (Int32.toNatClampNeg l2)) ((J x_flow f_Flow_toLow) ||| (J x_flow f_Flow_toFree))
      else
        j9 (J x_flow_out (Int32.toNatClampNeg l2)) (J x_flow f_Flow_toLow)) fun j6 =>
      if (l3 + (1 : Int32)) < (I x_board f_Board_depth) then
        j6 (0 : Int32)
      else
        j6 (1 : Int32)
    else
      some ((), I, J)
set_option maxRecDepth 100000 in
theorem cm_X1_follow_B (b : Bool) (rc : Int32 → Int32 → Int32 → Int32 → HI → HJ → Option (Unit × HI × HJ)) (dn : Nat) (hdn : 2 ≤ dn) (hrc : ∀ (a0 : Int32) (a1 : Int32) (a2 : Int32) (a3 : Int32) (I : HI) (J : HJ), CM mX1_follow dn 0 0 [.ref 17, .int a0, .int a1, .int a2, .int a3] (zs b, I, J) (fV (zs b)) (rc a0 a1 a2 a3 I J)) (l1 : Int32) (l2 : Int32) (l3 : Int32) (l4 : Int32) (I : HI) (J : HJ) : CM mX1_follow (dn + 1) 0 0 [.ref 17, .int l1, .int l2, .int l3, .int l4] (zs b, I, J) (fV (zs b)) (F_X1_follow_B rc l1 l2 l3 l4 I J) := by
  refine S.of okX1_follow pn_X1 (Nat.le_of_ble_eq_true rfl) ?_
  refine S.sub (lv' := [(0, .ref 17), (1, .int l1), (2, .int l2), (3, .int l3), (4, .int l4)]) [0, 1, 2, 3, 4] rfl ?_
  unfold F_X1_follow_B
  refine S.iload_n 0 3 rfl rfl ?_
  refine S.aload_n 1 0 rfl rfl ?_
  refine S.getR 2 rfl fo_X1_47 rfl rfl rfl ?_
  refine S.getI 3 rfl fo_X1_131 rfl rfl ?_
  refine S.icmp_ge 20 4 rfl (by decide) (fun _ => ?_) (fun _ => ?_)
  · exact S.vret 10 rfl rfl (Nat.le_refl _) (Nat.le_refl _) rfl
  · refine S.iload_n 5 3 rfl rfl ?_
    refine S.aload_n 6 0 rfl rfl ?_
    refine S.getR 7 rfl fo_X1_28 rfl rfl rfl ?_
    refine S.alen (3 : Int32) 8 rfl rfl (by decide) (by decide) (by decide) ?_
    refine S.icmp_lt 21 9 rfl (by decide) (fun _ => ?_) (fun _ => ?_)
    · refine S.iload_n 11 3 rfl rfl ?_
      refine S.iconst (1 : Int32) 12 rfl (by decide) ?_
      refine S.iadd 13 rfl ?_
      refine S.aload_n 14 0 rfl rfl ?_
      refine S.getR 15 rfl fo_X1_47 rfl rfl rfl ?_
      refine S.getI 16 rfl fo_X1_131 rfl rfl ?_
      refine S.jn (fun j => ∀ (y5 : Int32), S (fV (zs b)) mX1_follow (rmd (dn + 1) 0 0) 0 0 (0, 0) 39 [(0, .ref 17), (1, .int l1), (2, .int l2), (3, .int l3), (4, .int l4)] [.int y5] (zs b, I, J) (j y5)) (fun y5 => ?_) (fun j6 hj6 => ?_)
      · refine S.istore [(5, .int y5), (0, .ref 17), (1, .int l1), (2, .int l2), (3, .int l3), (4, .int l4)] 21 rfl (by decide) rfl ?_
        refine S.aload_n 22 1 rfl rfl ?_
        refine S.getR 23 rfl fo_X1_15 rfl rfl rfl ?_
        refine S.iload_n 24 3 rfl rfl ?_
        refine S.lald 25 rfl rfl ?_
        refine S.iload 26 0 rfl rfl ?_
        refine S.jn (fun j => ∀ (y7 : Int64) (y8 : Int64), S (fV (zs b)) mX1_follow (rmd (dn + 1) 0 0) 0 0 (0, 0) 68 [(0, .ref 17), (1, .int l1), (3, .int l3), (4, .int l4)] [.long y8, .long y7] (zs b, I, J) (j y7 y8)) (fun y7 y8 => ?_) (fun j9 hj9 => ?_)
        · refine S.land 36 rfl ?_
          refine S.nml (fun x10 => ?_)
          refine S.lstore [(6, .long x10), (0, .ref 17), (1, .int l1), (3, .int l3), (4, .int l4)] 37 rfl (by decide) rfl ?_
          refine S.lload 38 0 rfl rfl ?_
          refine S.qSI (d := 1) (av := [.long x10]) (rs := [.long x10]) 39 rfl co_X1_116 rfl rfl ⟨⟨by show 1 + 1 ≤ dn + 1; omega, by show 8 + (2 + 11) + 64 * (1) ≤ 64 * (dn + 1); omega⟩, ⟨Nat.le_refl _, Nat.le_refl _⟩, Nat.le_of_ble_eq_true rfl⟩ (cm_J13_bitCount_95d88 (zs b, I, J) x10) (fun r11 => ?_)
          refine S.istore [(8, .int r11), (6, .long x10), (0, .ref 17), (1, .int l1), (3, .int l3), (4, .int l4)] 40 rfl (by decide) rfl ?_
          refine S.sub (lv' := [(0, .ref 17), (1, .int l1), (3, .int l3), (4, .int l4), (6, .long x10), (8, .int r11)]) [2, 3, 4, 5, 1, 0] rfl ?_
          refine s_X1_follow_L78 b rc dn hdn hrc _ _ _ bgf _ _ _ _
        · refine S.if_eq 59 27 rfl (by decide) (fun _ => ?_) (fun _ => ?_)
          · refine S.aload_n 31 1 rfl rfl ?_
            refine S.getJ 32 rfl fo_X1_97 rfl rfl ?_
            refine S.aload_n 33 1 rfl rfl ?_
            refine S.getJ 34 rfl fo_X1_100 rfl rfl ?_
            refine S.lor 35 rfl ?_
            refine S.sub (lv' := [(0, .ref 17), (1, .int l1), (3, .int l3), (4, .int l4)]) [1, 2, 4, 5] rfl ?_
            exact hj9 _ _
          · refine S.aload_n 28 1 rfl rfl ?_
            refine S.getJ 29 rfl fo_X1_97 rfl rfl ?_
            refine S.goto 68 30 rfl (by decide) ?_
            refine S.sub (lv' := [(0, .ref 17), (1, .int l1), (3, .int l3), (4, .int l4)]) [1, 2, 4, 5] rfl ?_
            exact hj9 _ _
      · refine S.icmp_lt 38 17 rfl (by decide) (fun _ => ?_) (fun _ => ?_)
        · refine S.iconst (0 : Int32) 20 rfl (by decide) ?_
          exact hj6 _
        · refine S.iconst (1 : Int32) 18 rfl (by decide) ?_
          refine S.goto 39 19 rfl (by decide) ?_
          exact hj6 _
    · exact S.vret 10 rfl rfl (Nat.le_refl _) (Nat.le_refl _) rfl
def F_X1_follow : Nat → Int32 → Int32 → Int32 → Int32 → HI → HJ → Option (Unit × HI × HJ)
  | 0, _, _, _, _, _, _ => none
  | n+1, l1, l2, l3, l4, I, J => F_X1_follow_B (F_X1_follow n) l1 l2 l3 l4 I J
theorem cm_X1_follow (b : Bool) : ∀ (n : Nat) (l1 : Int32) (l2 : Int32) (l3 : Int32) (l4 : Int32) (I : HI) (J : HJ), CM mX1_follow (2 + 1 * n) 0 0 [.ref 17, .int l1, .int l2, .int l3, .int l4] (zs b, I, J) (fV (zs b)) (F_X1_follow n l1 l2 l3 l4 I J) := by
  intro n
  induction n with
  | zero => intro l1 l2 l3 l4 I J r hf; cases hf
  | succ n ih =>
    intro l1 l2 l3 l4 I J
    have e : 2 + 1 * (n + 1) = 2 + 1 * n + 1 := by omega
    rw [e]
    exact cm_X1_follow_B b (F_X1_follow n) (2 + 1 * n) (by omega) (ih) l1 l2 l3 l4 I J
def F_X1_bright_L19 (I : HI) (J : HJ) : Nat → Int64 → Int32 → Option Int64
  | 0, _, _ => none
  | K+1, l1, l3 =>
    if (I x_board f_Board_lamps) ≤ l3 then
      some l1
    else
      bx l3 64 <|
      lb (fun (y2 : Int64) =>
      F_X1_bright_L19 I J K y2 (l3 + 1)) fun j3 =>
      if (lg_cmp ((J x_flow_light (Int32.toNatClampNeg l3)) * (100 : Int64)) ((Int32.toInt64 (I x_board f_Board_faint)) * (27720 : Int64))) < 0 then
        j3 l1
      else
        lb ((l1 ||| (olshl (1 : Int64) l3))) fun x4 =>
        j3 x4
set_option maxRecDepth 100000 in
theorem s_X1_bright_L19 (b : Bool) (I : HI) (J : HJ) : ∀ (K : Nat) (l1 : Int64) (l3 : Int32), S (pL (zs b, I, J)) mX1_bright (rmd 1 0 0) 0 0 (0, 0) 19 [(0, .ref 17), (1, .long l1), (3, .int l3)] [] (zs b, I, J) (F_X1_bright_L19 I J K l1 l3) := by
  intro K
  induction K with
  | zero => intro l1 l3; exact S.none
  | succ K ih =>
    intro l1 l3
    rw [F_X1_bright_L19]
    refine S.iload_n 11 2 rfl rfl ?_
    refine S.aload_n 12 0 rfl rfl ?_
    refine S.getR 13 rfl fo_X1_47 rfl rfl rfl ?_
    refine S.getI 14 rfl fo_X1_157 rfl rfl ?_
    refine S.icmp_ge 68 15 rfl (by decide) (fun _ => ?_) (fun _ => ?_)
    · refine S.lload_n 38 1 rfl rfl ?_
      exact S.lret 39 rfl rfl (Nat.le_refl _) (Nat.le_refl _) rfl
    · refine S.aload_n 16 0 rfl rfl ?_
      refine S.getR 17 rfl fo_X1_22 rfl rfl rfl ?_
      refine S.iload_n 18 2 rfl rfl ?_
      refine S.lald 19 rfl rfl ?_
      refine S.ldc2 (100 : Int64) 20 rfl ko_X1_160 ?_
      refine S.lmul 21 rfl ?_
      refine S.aload_n 22 0 rfl rfl ?_
      refine S.getR 23 rfl fo_X1_47 rfl rfl rfl ?_
      refine S.getI 24 rfl fo_X1_154 rfl rfl ?_
      refine S.i2l 25 rfl ?_
      refine S.ldc2 (27720 : Int64) 26 rfl ko_X1_162 ?_
      refine S.lmul 27 rfl ?_
      refine S.lcmp 28 rfl ?_
      refine S.jn (fun j => ∀ (y2 : Int64), S (pL (zs b, I, J)) mX1_bright (rmd 1 0 0) 0 0 (0, 0) 62 [(0, .ref 17), (1, .long y2), (3, .int l3)] [] (zs b, I, J) (j y2)) (fun y2 => ?_) (fun j3 hj3 => ?_)
      · refine S.iinc (l3 + 1) [(3, .int (l3 + 1)), (0, .ref 17), (1, .long y2)] 36 2 rfl rfl rfl (by decide) rfl ?_
        refine S.goto 19 37 rfl (by decide) ?_
        refine S.sub (lv' := [(0, .ref 17), (1, .long y2), (3, .int (l3 + 1))]) [1, 2, 0] rfl ?_
        exact ih _ _
      · refine S.if_lt 62 29 rfl (by decide) (fun _ => ?_) (fun _ => ?_)
        · exact hj3 _
        · refine S.lload_n 30 1 rfl rfl ?_
          refine S.lconst (1 : Int64) 31 rfl (by decide) ?_
          refine S.iload_n 32 2 rfl rfl ?_
          refine S.lshl 33 rfl ?_
          refine S.lor 34 rfl ?_
          refine S.nml (fun x4 => ?_)
          refine S.lstore_n [(1, .long x4), (0, .ref 17), (3, .int l3)] 35 rfl (by decide) rfl ?_
          refine S.sub (lv' := [(0, .ref 17), (1, .long x4), (3, .int l3)]) [1, 0, 2] rfl ?_
          exact hj3 _
def F_X1_bright  (I : HI) (J : HJ) : Option Int64 :=
  if (I x_board f_Board_faint) = 0 then
    some (J x_flow f_Flow_lit)
  else
    F_X1_bright_L19 I J bgf (0 : Int64) (0 : Int32)
set_option maxRecDepth 100000 in
theorem cm_X1_bright (b : Bool)  (I : HI) (J : HJ) : CM mX1_bright 1 0 0 [.ref 17] (zs b, I, J) (pL (zs b, I, J)) (F_X1_bright  I J) := by
  refine S.of okX1_bright pn_X1 (Nat.le_of_ble_eq_true rfl) ?_
  refine S.sub (lv' := [(0, .ref 17)]) [0] rfl ?_
  unfold F_X1_bright
  refine S.aload_n 0 0 rfl rfl ?_
  refine S.getR 1 rfl fo_X1_47 rfl rfl rfl ?_
  refine S.getI 2 rfl fo_X1_154 rfl rfl ?_
  refine S.if_ne 15 3 rfl (by decide) (fun _ => ?_) (fun _ => ?_)
  · refine S.lconst (0 : Int64) 7 rfl (by decide) ?_
    refine S.lstore_n [(1, .long (0 : Int64)), (0, .ref 17)] 8 rfl (by decide) rfl ?_
    refine S.iconst (0 : Int32) 9 rfl (by decide) ?_
    refine S.istore_n [(3, .int (0 : Int32)), (1, .long (0 : Int64)), (0, .ref 17)] 10 rfl (by decide) rfl ?_
    refine S.sub (lv' := [(0, .ref 17), (1, .long (0 : Int64)), (3, .int (0 : Int32))]) [2, 1, 0] rfl ?_
    refine s_X1_bright_L19 b _ _ bgf _ _
  · refine S.aload_n 4 0 rfl rfl ?_
    refine S.getJ 5 rfl fo_X1_113 rfl rfl ?_
    exact S.lret 6 rfl rfl (Nat.le_refl _) (Nat.le_refl _) rfl
def F_X1_run_L32 (I : HI) (kx104 : HJ → Option (Int64 × HI × HJ)) : Nat → Int32 → HJ → Option (Int64 × HI × HJ)
  | 0, _, _ => none
  | K+1, l1, J =>
    if (I x_board f_Board_wide) ≤ l1 then
      kx104 J
    else
      lb (fun (J9 : HJ) =>
      F_X1_run_L32 I kx104 K (l1 + 1) J9) fun j10 =>
      if ((oushr (I x_flow f_Flow_low) l1) &&& (1 : Int32)) = 0 then
        if ((oushr (I x_flow f_Flow_high) l1) &&& (1 : Int32)) = 0 then
          bx l1 10 <|
          lb (uj J x_flow f_Flow_toFree ((J x_flow f_Flow_toFree) ||| (J x_flow_into (Int32.toNatClampNeg l1)))) fun J11 =>
          j10 J11
        else
          j10 J
      else
        bx l1 10 <|
        lb (uj J x_flow f_Flow_toLow ((J x_flow f_Flow_toLow) ||| (J x_flow_into (Int32.toNatClampNeg l1)))) fun J12 =>
        j10 J12
set_option maxRecDepth 100000 in
theorem s_X1_run_L32 (b : Bool) (I : HI) (kx104 : HJ → Option (Int64 × HI × HJ)) (hkx104 : ∀ (J1 : HJ), S (fL (zs b)) mX1_run (rmd 23 0 0) 0 0 (0, 0) 104 [(0, .ref 17)] [] (zs b, I, J1) (kx104 J1)) : ∀ (K : Nat) (l1 : Int32) (J : HJ), S (fL (zs b)) mX1_run (rmd 23 0 0) 0 0 (0, 0) 32 [(0, .ref 17), (1, .int l1)] [] (zs b, I, J) (F_X1_run_L32 I kx104 K l1 J) := by
  intro K
  induction K with
  | zero => intro l1 J; exact S.none
  | succ K ih =>
    intro l1 J
    rw [F_X1_run_L32]
    refine S.iload_n 18 1 rfl rfl ?_
    refine S.aload_n 19 0 rfl rfl ?_
    refine S.getR 20 rfl fo_X1_47 rfl rfl rfl ?_
    refine S.getI 21 rfl fo_X1_103 rfl rfl ?_
    refine S.icmp_ge 104 22 rfl (by decide) (fun _ => ?_) (fun _ => ?_)
    · refine S.sub (lv' := [(0, .ref 17)]) [0] rfl ?_
      exact hkx104 _
    · refine S.aload_n 23 0 rfl rfl ?_
      refine S.getI 24 rfl fo_X1_72 rfl rfl ?_
      refine S.iload_n 25 1 rfl rfl ?_
      refine S.iushr 26 rfl ?_
      refine S.iconst (1 : Int32) 27 rfl (by decide) ?_
      refine S.iand 28 rfl ?_
      refine S.jn (fun j => ∀ (J9 : HJ), S (fL (zs b)) mX1_run (rmd 23 0 0) 0 0 (0, 0) 98 [(0, .ref 17), (1, .int l1)] [] (zs b, I, J9) (j J9)) (fun J9 => ?_) (fun j10 hj10 => ?_)
      · refine S.iinc (l1 + 1) [(1, .int (l1 + 1)), (0, .ref 17)] 56 1 rfl rfl rfl (by decide) rfl ?_
        refine S.goto 32 57 rfl (by decide) ?_
        refine S.sub (lv' := [(0, .ref 17), (1, .int (l1 + 1))]) [1, 0] rfl ?_
        exact ih _ _
      · refine S.if_eq 72 29 rfl (by decide) (fun _ => ?_) (fun _ => ?_)
        · refine S.aload_n 40 0 rfl rfl ?_
          refine S.getI 41 rfl fo_X1_69 rfl rfl ?_
          refine S.iload_n 42 1 rfl rfl ?_
          refine S.iushr 43 rfl ?_
          refine S.iconst (1 : Int32) 44 rfl (by decide) ?_
          refine S.iand 45 rfl ?_
          refine S.if_ne 98 46 rfl (by decide) (fun _ => ?_) (fun _ => ?_)
          · exact hj10 _
          · refine S.aload_n 47 0 rfl rfl ?_
            refine S.dup 48 rfl rfl ?_
            refine S.getJ 49 rfl fo_X1_100 rfl rfl ?_
            refine S.aload_n 50 0 rfl rfl ?_
            refine S.getR 51 rfl fo_X1_19 rfl rfl rfl ?_
            refine S.iload_n 52 1 rfl rfl ?_
            refine S.lald 53 rfl rfl ?_
            refine S.lor 54 rfl ?_
            refine S.putJ 55 rfl fo_X1_100 rfl rfl rfl rfl (fun _ hq => by cases hq; exact Or.inl rfl) (fun J11 => ?_)
            exact hj10 _
        · refine S.aload_n 30 0 rfl rfl ?_
          refine S.dup 31 rfl rfl ?_
          refine S.getJ 32 rfl fo_X1_97 rfl rfl ?_
          refine S.aload_n 33 0 rfl rfl ?_
          refine S.getR 34 rfl fo_X1_19 rfl rfl rfl ?_
          refine S.iload_n 35 1 rfl rfl ?_
          refine S.lald 36 rfl rfl ?_
          refine S.lor 37 rfl ?_
          refine S.putJ 38 rfl fo_X1_97 rfl rfl rfl rfl (fun _ hq => by cases hq; exact Or.inl rfl) (fun J12 => ?_)
          refine S.goto 98 39 rfl (by decide) ?_
          exact hj10 _
def F_X1_run_L106 (kx142 : HI → HJ → Option (Int64 × HI × HJ)) : Nat → Int32 → HI → HJ → Option (Int64 × HI × HJ)
  | 0, _, _, _ => none
  | K+1, l1, I, J =>
    if (I x_board f_Board_wide) ≤ l1 then
      kx142 I J
    else
      lb (fun (I14 : HI) (J15 : HJ) =>
      F_X1_run_L106 kx142 K (l1 + 1) I14 J15) fun j16 =>
      if ((oushr (I x_flow f_Flow_high) l1) &&& (1 : Int32)) = 0 then
        j16 I J
      else
        cl (F_X1_follow 20 l1 l1 (0 : Int32) (0 : Int32) I J) fun _ I17 J18 =>
        j16 I17 J18
set_option maxRecDepth 100000 in
theorem s_X1_run_L106 (b : Bool) (kx142 : HI → HJ → Option (Int64 × HI × HJ)) (hkx142 : ∀ (I1 : HI) (J1 : HJ), S (fL (zs b)) mX1_run (rmd 23 0 0) 0 0 (0, 0) 142 [(0, .ref 17)] [] (zs b, I1, J1) (kx142 I1 J1)) : ∀ (K : Nat) (l1 : Int32) (I : HI) (J : HJ), S (fL (zs b)) mX1_run (rmd 23 0 0) 0 0 (0, 0) 106 [(0, .ref 17), (1, .int l1)] [] (zs b, I, J) (F_X1_run_L106 kx142 K l1 I J) := by
  intro K
  induction K with
  | zero => intro l1 I J; exact S.none
  | succ K ih =>
    intro l1 I J
    rw [F_X1_run_L106]
    refine S.iload_n 60 1 rfl rfl ?_
    refine S.aload_n 61 0 rfl rfl ?_
    refine S.getR 62 rfl fo_X1_47 rfl rfl rfl ?_
    refine S.getI 63 rfl fo_X1_103 rfl rfl ?_
    refine S.icmp_ge 142 64 rfl (by decide) (fun _ => ?_) (fun _ => ?_)
    · refine S.sub (lv' := [(0, .ref 17)]) [0] rfl ?_
      exact hkx142 _ _
    · refine S.aload_n 65 0 rfl rfl ?_
      refine S.getI 66 rfl fo_X1_69 rfl rfl ?_
      refine S.iload_n 67 1 rfl rfl ?_
      refine S.iushr 68 rfl ?_
      refine S.iconst (1 : Int32) 69 rfl (by decide) ?_
      refine S.iand 70 rfl ?_
      refine S.jn (fun j => ∀ (I14 : HI) (J15 : HJ), S (fL (zs b)) mX1_run (rmd 23 0 0) 0 0 (0, 0) 136 [(0, .ref 17), (1, .int l1)] [] (zs b, I14, J15) (j I14 J15)) (fun I14 J15 => ?_) (fun j16 hj16 => ?_)
      · refine S.iinc (l1 + 1) [(1, .int (l1 + 1)), (0, .ref 17)] 78 1 rfl rfl rfl (by decide) rfl ?_
        refine S.goto 106 79 rfl (by decide) ?_
        refine S.sub (lv' := [(0, .ref 17), (1, .int (l1 + 1))]) [1, 0] rfl ?_
        exact ih _ _ _
      · refine S.if_eq 136 71 rfl (by decide) (fun _ => ?_) (fun _ => ?_)
        · exact hj16 _ _
        · refine S.aload_n 72 0 rfl rfl ?_
          refine S.iload_n 73 1 rfl rfl ?_
          refine S.iload_n 74 1 rfl rfl ?_
          refine S.iconst (0 : Int32) 75 rfl (by decide) ?_
          refine S.iconst (0 : Int32) 76 rfl (by decide) ?_
          refine S.cVV (d := 22) (av := [.int l1, .int l1, .int (0 : Int32), .int (0 : Int32)]) (rs := [.int (0 : Int32), .int (0 : Int32), .int l1, .int l1]) (b := 17) 77 rfl co_X1_106 rfl rfl rfl rfl rfl ⟨⟨Nat.le_of_ble_eq_true rfl, Nat.le_of_ble_eq_true rfl⟩, ⟨Nat.le_of_ble_eq_true rfl, Nat.le_of_ble_eq_true rfl⟩, Nat.le_of_ble_eq_true rfl⟩ (cm_X1_follow b 20 l1 l1 (0 : Int32) (0 : Int32) I J) (fun _ I17 J18 => ?_)
          exact hj16 _ _
def F_X1_run  (I : HI) (J : HJ) : Option (Int64 × HI × HJ) :=
  cl (F_X1_putOut I J) fun _ I5 J6 =>
  if (I5 x_flow f_Flow_high) = 0 then
    some ((0 : Int64), I5, J6)
  else
    if (I5 x_flow f_Flow_low) = 0 then
      some ((0 : Int64), I5, J6)
    else
      lb (uj J6 x_flow f_Flow_toLow (0 : Int64)) fun J7 =>
      lb (uj J7 x_flow f_Flow_toFree (0 : Int64)) fun J8 =>
      F_X1_run_L32 I5 (fun (J13 : HJ) =>
      F_X1_run_L106 (fun (I19 : HI) (J20 : HJ) =>
      cp (F_X1_bright I19 J20) fun r21 =>
      some (r21, I19, J20)) bgf (0 : Int32) I5 J13) bgf (0 : Int32) J8
set_option maxRecDepth 100000 in
theorem cm_X1_run (b : Bool)  (I : HI) (J : HJ) : CM mX1_run 23 0 0 [.ref 17] (zs b, I, J) (fL (zs b)) (F_X1_run  I J) := by
  refine S.of okX1_run pn_X1 (Nat.le_of_ble_eq_true rfl) ?_
  refine S.sub (lv' := [(0, .ref 17)]) [0] rfl ?_
  unfold F_X1_run
  refine S.aload_n 0 0 rfl rfl ?_
  refine S.cVV (d := 3) (av := []) (rs := []) (b := 17) 1 rfl co_X1_94 rfl rfl rfl rfl rfl ⟨⟨Nat.le_of_ble_eq_true rfl, Nat.le_of_ble_eq_true rfl⟩, ⟨Nat.le_of_ble_eq_true rfl, Nat.le_of_ble_eq_true rfl⟩, Nat.le_of_ble_eq_true rfl⟩ (cm_X1_putOut b I J) (fun _ I5 J6 => ?_)
  refine S.aload_n 2 0 rfl rfl ?_
  refine S.getI 3 rfl fo_X1_69 rfl rfl ?_
  refine S.if_eq 18 4 rfl (by decide) (fun _ => ?_) (fun _ => ?_)
  · refine S.lconst (0 : Int64) 8 rfl (by decide) ?_
    exact S.lret 9 rfl rfl (Nat.le_refl _) (Nat.le_refl _) rfl
  · refine S.aload_n 5 0 rfl rfl ?_
    refine S.getI 6 rfl fo_X1_72 rfl rfl ?_
    refine S.if_ne 20 7 rfl (by decide) (fun _ => ?_) (fun _ => ?_)
    · refine S.aload_n 10 0 rfl rfl ?_
      refine S.lconst (0 : Int64) 11 rfl (by decide) ?_
      refine S.putJ 12 rfl fo_X1_97 rfl rfl rfl rfl (fun _ hq => by cases hq; exact Or.inl rfl) (fun J7 => ?_)
      refine S.aload_n 13 0 rfl rfl ?_
      refine S.lconst (0 : Int64) 14 rfl (by decide) ?_
      refine S.putJ 15 rfl fo_X1_100 rfl rfl rfl rfl (fun _ hq => by cases hq; exact Or.inl rfl) (fun J8 => ?_)
      refine S.iconst (0 : Int32) 16 rfl (by decide) ?_
      refine S.istore_n [(1, .int (0 : Int32)), (0, .ref 17)] 17 rfl (by decide) rfl ?_
      refine S.sub (lv' := [(0, .ref 17), (1, .int (0 : Int32))]) [1, 0] rfl ?_
      refine s_X1_run_L32 b _ _ (fun J13 => ?_) bgf _ _
      refine S.iconst (0 : Int32) 58 rfl (by decide) ?_
      refine S.istore_n [(1, .int (0 : Int32)), (0, .ref 17)] 59 rfl (by decide) rfl ?_
      refine S.sub (lv' := [(0, .ref 17), (1, .int (0 : Int32))]) [1, 0] rfl ?_
      refine s_X1_run_L106 b _ (fun I19 J20 => ?_) bgf _ _ _
      refine S.aload_n 80 0 rfl rfl ?_
      refine S.qVL (d := 1) (av := []) (rs := []) (b := 17) 81 rfl co_X1_110 rfl rfl rfl rfl rfl ⟨⟨Nat.le_of_ble_eq_true rfl, Nat.le_of_ble_eq_true rfl⟩, ⟨Nat.le_of_ble_eq_true rfl, Nat.le_of_ble_eq_true rfl⟩, Nat.le_of_ble_eq_true rfl⟩ (cm_X1_bright b I19 J20) (fun r21 => ?_)
      exact S.lret 82 rfl rfl (Nat.le_refl _) (Nat.le_refl _) rfl
    · refine S.lconst (0 : Int64) 8 rfl (by decide) ?_
      exact S.lret 9 rfl rfl (Nat.le_refl _) (Nat.le_refl _) rfl
def F_X1_glowing (l1 : Int32) (l2 : Int32) (I : HI) (J : HJ) : Option (Int64 × HI × HJ) :=
  cl (F_X1_lay l1 l2 I J) fun _ I1 J2 =>
  cl (F_X1_run I1 J2) fun r3 I4 J5 =>
  some (r3, I4, J5)
set_option maxRecDepth 100000 in
theorem cm_X1_glowing (b : Bool) (l1 : Int32) (l2 : Int32) (I : HI) (J : HJ) : CM mX1_glowing 24 0 0 [.ref 17, .int l1, .int l2] (zs b, I, J) (fL (zs b)) (F_X1_glowing l1 l2 I J) := by
  refine S.of okX1_glowing pn_X1 (Nat.le_of_ble_eq_true rfl) ?_
  refine S.sub (lv' := [(0, .ref 17), (1, .int l1), (2, .int l2)]) [0, 1, 2] rfl ?_
  unfold F_X1_glowing
  refine S.aload_n 0 0 rfl rfl ?_
  refine S.iload_n 1 1 rfl rfl ?_
  refine S.iload_n 2 2 rfl rfl ?_
  refine S.cVV (d := 1) (av := [.int l1, .int l2]) (rs := [.int l2, .int l1]) (b := 17) 3 rfl co_X1_51 rfl rfl rfl rfl rfl ⟨⟨Nat.le_of_ble_eq_true rfl, Nat.le_of_ble_eq_true rfl⟩, ⟨Nat.le_of_ble_eq_true rfl, Nat.le_of_ble_eq_true rfl⟩, Nat.le_of_ble_eq_true rfl⟩ (cm_X1_lay b l1 l2 I J) (fun _ I1 J2 => ?_)
  refine S.aload_n 4 0 rfl rfl ?_
  refine S.cVL (d := 23) (av := []) (rs := []) (b := 17) 5 rfl co_X1_55 rfl rfl rfl rfl rfl ⟨⟨Nat.le_of_ble_eq_true rfl, Nat.le_of_ble_eq_true rfl⟩, ⟨Nat.le_of_ble_eq_true rfl, Nat.le_of_ble_eq_true rfl⟩, Nat.le_of_ble_eq_true rfl⟩ (cm_X1_run b I1 J2) (fun r3 I4 J5 => ?_)
  exact S.lret 6 rfl rfl (Nat.le_refl _) (Nat.le_refl _) rfl
def F_X1_watch (l1 : Int32) (l2 : Int32) (l3 : Int32) (I : HI) (J : HJ) : Option (Unit × HI × HJ) :=
  lb (ui I x_flow f_Flow_passing (0 : Int32)) fun I6 =>
  lb (uj J x_flow f_Flow_best (0 : Int64)) fun J7 =>
  lb (ui I6 x_flow f_Flow_bestSize (0 : Int32)) fun I8 =>
  lb (ui I8 x_flow f_Flow_watched l1) fun I9 =>
  cl (F_X1_lay l2 l3 I9 J7) fun _ I10 J11 =>
  cl (F_X1_run I10 J11) fun r12 I13 J14 =>
  lb (ui I13 x_flow f_Flow_watched (-1 : Int32)) fun I15 =>
  some ((), I15, J14)
set_option maxRecDepth 100000 in
theorem cm_X1_watch (b : Bool) (l1 : Int32) (l2 : Int32) (l3 : Int32) (I : HI) (J : HJ) : CM mX1_watch 24 0 0 [.ref 17, .int l1, .int l2, .int l3] (zs b, I, J) (fV (zs b)) (F_X1_watch l1 l2 l3 I J) := by
  refine S.of okX1_watch pn_X1 (Nat.le_of_ble_eq_true rfl) ?_
  refine S.sub (lv' := [(0, .ref 17), (1, .int l1), (2, .int l2), (3, .int l3)]) [0, 1, 2, 3] rfl ?_
  unfold F_X1_watch
  refine S.aload_n 0 0 rfl rfl ?_
  refine S.iconst (0 : Int32) 1 rfl (by decide) ?_
  refine S.putI 2 rfl fo_X1_59 rfl rfl rfl rfl (fun _ hq => by cases hq; exact Or.inl rfl) (fun I6 => ?_)
  refine S.aload_n 3 0 rfl rfl ?_
  refine S.lconst (0 : Int64) 4 rfl (by decide) ?_
  refine S.putJ 5 rfl fo_X1_62 rfl rfl rfl rfl (fun _ hq => by cases hq; exact Or.inl rfl) (fun J7 => ?_)
  refine S.aload_n 6 0 rfl rfl ?_
  refine S.iconst (0 : Int32) 7 rfl (by decide) ?_
  refine S.putI 8 rfl fo_X1_66 rfl rfl rfl rfl (fun _ hq => by cases hq; exact Or.inl rfl) (fun I8 => ?_)
  refine S.aload_n 9 0 rfl rfl ?_
  refine S.iload_n 10 1 rfl rfl ?_
  refine S.putI 11 rfl fo_X1_44 rfl rfl rfl rfl (fun _ hq => by cases hq; exact Or.inl rfl) (fun I9 => ?_)
  refine S.aload_n 12 0 rfl rfl ?_
  refine S.iload_n 13 2 rfl rfl ?_
  refine S.iload_n 14 3 rfl rfl ?_
  refine S.cVV (d := 1) (av := [.int l2, .int l3]) (rs := [.int l3, .int l2]) (b := 17) 15 rfl co_X1_51 rfl rfl rfl rfl rfl ⟨⟨Nat.le_of_ble_eq_true rfl, Nat.le_of_ble_eq_true rfl⟩, ⟨Nat.le_of_ble_eq_true rfl, Nat.le_of_ble_eq_true rfl⟩, Nat.le_of_ble_eq_true rfl⟩ (cm_X1_lay b l2 l3 I9 J7) (fun _ I10 J11 => ?_)
  refine S.aload_n 16 0 rfl rfl ?_
  refine S.cVL (d := 23) (av := []) (rs := []) (b := 17) 17 rfl co_X1_55 rfl rfl rfl rfl rfl ⟨⟨Nat.le_of_ble_eq_true rfl, Nat.le_of_ble_eq_true rfl⟩, ⟨Nat.le_of_ble_eq_true rfl, Nat.le_of_ble_eq_true rfl⟩, Nat.le_of_ble_eq_true rfl⟩ (cm_X1_run b I10 J11) (fun r12 I13 J14 => ?_)
  refine S.pop2_2 18 rfl rfl ?_
  refine S.aload_n 19 0 rfl rfl ?_
  refine S.iconst (-1 : Int32) 20 rfl (by decide) ?_
  refine S.putI 21 rfl fo_X1_44 rfl rfl rfl rfl (fun _ hq => by cases hq; exact Or.inl rfl) (fun I15 => ?_)
  exact S.vret 22 rfl rfl (Nat.le_refl _) (Nat.le_refl _) rfl
def F_X1_turn (l1 : Int32) (I : HI) (J : HJ) : Option (Unit × HI × HJ) :=
  bx l1 64 <|
  lb ((I x_board_from (Int32.toNatClampNeg l1))) fun x9 =>
  bx l1 64 <|
  lb ((I x_board_goal (Int32.toNatClampNeg l1))) fun x10 =>
  lb ((olshl (1 : Int64) l1)) fun x11 =>
  bx x9 10 <|
  bx x9 10 <|
  lb (uj J x_flow_out (Int32.toNatClampNeg x9) ((J x_flow_out (Int32.toNatClampNeg x9)) &&& (x11 ^^^ (-1 : Int64)))) fun J12 =>
  bx x10 10 <|
  bx x10 10 <|
  lb (uj J12 x_flow_into (Int32.toNatClampNeg x10) ((J12 x_flow_into (Int32.toNatClampNeg x10)) &&& (x11 ^^^ (-1 : Int64)))) fun J13 =>
  bx x10 10 <|
  bx x10 10 <|
  lb (uj J13 x_flow_out (Int32.toNatClampNeg x10) ((J13 x_flow_out (Int32.toNatClampNeg x10)) ||| x11)) fun J14 =>
  bx x9 10 <|
  bx x9 10 <|
  lb (uj J14 x_flow_into (Int32.toNatClampNeg x9) ((J14 x_flow_into (Int32.toNatClampNeg x9)) ||| x11)) fun J15 =>
  lb (ui I x_flow f_Flow_turned l1) fun I16 =>
  some ((), I16, J15)
set_option maxRecDepth 100000 in
theorem cm_X1_turn (b : Bool) (l1 : Int32) (I : HI) (J : HJ) : CM mX1_turn 1 0 0 [.ref 17, .int l1] (zs b, I, J) (fV (zs b)) (F_X1_turn l1 I J) := by
  refine S.of okX1_turn pn_X1 (Nat.le_of_ble_eq_true rfl) ?_
  refine S.sub (lv' := [(0, .ref 17), (1, .int l1)]) [0, 1] rfl ?_
  unfold F_X1_turn
  refine S.aload_n 0 0 rfl rfl ?_
  refine S.getR 1 rfl fo_X1_47 rfl rfl rfl ?_
  refine S.getR 2 rfl fo_X1_88 rfl rfl rfl ?_
  refine S.iload_n 3 1 rfl rfl ?_
  refine S.iald 4 rfl rfl ?_
  refine S.nmi (fun x9 => ?_)
  refine S.istore_n [(2, .int x9), (0, .ref 17), (1, .int l1)] 5 rfl (by decide) rfl ?_
  refine S.aload_n 6 1 rfl rfl ?_
  refine S.getR 7 rfl fo_X1_47 rfl rfl rfl ?_
  refine S.getR 8 rfl fo_X1_91 rfl rfl rfl ?_
  refine S.iload_n 9 2 rfl rfl ?_
  refine S.iald 10 rfl rfl ?_
  refine S.nmi (fun x10 => ?_)
  refine S.istore_n [(3, .int x10), (2, .int x9), (0, .ref 17), (1, .int l1)] 11 rfl (by decide) rfl ?_
  refine S.lconst (1 : Int64) 12 rfl (by decide) ?_
  refine S.iload_n 13 3 rfl rfl ?_
  refine S.lshl 14 rfl ?_
  refine S.nml (fun x11 => ?_)
  refine S.lstore [(4, .long x11), (3, .int x10), (2, .int x9), (0, .ref 17), (1, .int l1)] 15 rfl (by decide) rfl ?_
  refine S.aload_n 16 3 rfl rfl ?_
  refine S.getR 17 rfl fo_X1_15 rfl rfl rfl ?_
  refine S.iload_n 18 2 rfl rfl ?_
  refine S.dup2_11 19 rfl rfl rfl ?_
  refine S.lald 20 rfl rfl ?_
  refine S.lload 21 0 rfl rfl ?_
  refine S.ldc2 (-1 : Int64) 22 rfl ko_X1_86 ?_
  refine S.lxor 23 rfl ?_
  refine S.land 24 rfl ?_
  refine S.last 25 rfl rfl (fun J12 => ?_)
  refine S.aload_n 26 3 rfl rfl ?_
  refine S.getR 27 rfl fo_X1_19 rfl rfl rfl ?_
  refine S.iload_n 28 1 rfl rfl ?_
  refine S.dup2_11 29 rfl rfl rfl ?_
  refine S.lald 30 rfl rfl ?_
  refine S.lload 31 0 rfl rfl ?_
  refine S.ldc2 (-1 : Int64) 32 rfl ko_X1_86 ?_
  refine S.lxor 33 rfl ?_
  refine S.land 34 rfl ?_
  refine S.last 35 rfl rfl (fun J13 => ?_)
  refine S.aload_n 36 3 rfl rfl ?_
  refine S.getR 37 rfl fo_X1_15 rfl rfl rfl ?_
  refine S.iload_n 38 1 rfl rfl ?_
  refine S.dup2_11 39 rfl rfl rfl ?_
  refine S.lald 40 rfl rfl ?_
  refine S.lload 41 0 rfl rfl ?_
  refine S.lor 42 rfl ?_
  refine S.last 43 rfl rfl (fun J14 => ?_)
  refine S.aload_n 44 3 rfl rfl ?_
  refine S.getR 45 rfl fo_X1_19 rfl rfl rfl ?_
  refine S.iload_n 46 2 rfl rfl ?_
  refine S.dup2_11 47 rfl rfl rfl ?_
  refine S.lald 48 rfl rfl ?_
  refine S.lload 49 0 rfl rfl ?_
  refine S.lor 50 rfl ?_
  refine S.last 51 rfl rfl (fun J15 => ?_)
  refine S.aload_n 52 3 rfl rfl ?_
  refine S.iload_n 53 4 rfl rfl ?_
  refine S.putI 54 rfl fo_X1_34 rfl rfl rfl rfl (fun _ hq => by cases hq; exact Or.inl rfl) (fun I16 => ?_)
  exact S.vret 55 rfl rfl (Nat.le_refl _) (Nat.le_refl _) rfl
def F_X1_join (l1 : Int32) (l2 : Int32) (I : HI) (J : HJ) : Option (Unit × HI × HJ) :=
  lb ((oshl (1 : Int32) l1)) fun x14 =>
  lb ((x14 ||| (oshl (1 : Int32) l2))) fun x15 =>
  lb (
  lb (fun (I17 : HI) =>
  lb (fun (y19 : Int32) =>
  lb (ui I17 x_flow f_Flow_high y19) fun I21 =>
  lb (fun (y22 : Int32) =>
  lb (ui I21 x_flow f_Flow_low y22) fun I24 =>
  bx l1 10 <|
  bx l2 10 <|
  bx l2 10 <|
  bx l1 10 <|
  lb ((((J x_flow_out (Int32.toNatClampNeg l1)) &&& (J x_flow_into (Int32.toNatClampNeg l2))) ||| ((J x_flow_out (Int32.toNatClampNeg l2)) &&& (J x_flow_into (Int32.toNatClampNeg l1))))) fun x25 =>
  bx l1 10 <|
  bx l2 10 <|
  bx l1 10 <|
  lb (uj J x_flow_out (Int32.toNatClampNeg l1) (((J x_flow_out (Int32.toNatClampNeg l1)) ||| (J x_flow_out (Int32.toNatClampNeg l2))) &&& (x25 ^^^ (-1 : Int64)))) fun J26 =>
  bx l1 10 <|
  bx l2 10 <|
  bx l1 10 <|
  lb (uj J26 x_flow_into (Int32.toNatClampNeg l1) (((J26 x_flow_into (Int32.toNatClampNeg l1)) ||| (J26 x_flow_into (Int32.toNatClampNeg l2))) &&& (x25 ^^^ (-1 : Int64)))) fun J27 =>
  bx l2 10 <|
  lb (uj J27 x_flow_out (Int32.toNatClampNeg l2) (0 : Int64)) fun J28 =>
  bx l2 10 <|
  lb (uj J28 x_flow_into (Int32.toNatClampNeg l2) (0 : Int64)) fun J29 =>
  lb (ui I24 x_flow f_Flow_joined l2) fun I30 =>
  lb (ui I30 x_flow f_Flow_joinedTo l1) fun I31 =>
  some ((), I31, J29)) fun j23 =>
  if ((I21 x_flow f_Flow_low) &&& x15) = 0 then
    j23 (I21 x_flow f_Flow_low)
  else
    j23 (((I21 x_flow f_Flow_low) &&& (x15 ^^^ (-1 : Int32))) ||| x14)) fun j20 =>
  if ((I17 x_flow f_Flow_high) &&& x15) = 0 then
    j20 (I17 x_flow f_Flow_high)
  else
    j20 (((I17 x_flow f_Flow_high) &&& (x15 ^^^ (-1 : Int32))) ||| x14)) fun j18 =>
  if (((I x_flow f_Flow_high) ||| (I x_flow f_Flow_low)) &&& x14) = 0 then
    bx l2 10 <|
    bx l1 10 <|
    lb (ui I x_flow_ohms (Int32.toNatClampNeg l1) (I x_flow_ohms (Int32.toNatClampNeg l2))) fun I32 =>
    j18 I32
  else
    j18 I) fun j16 =>
  if ((I x_flow f_Flow_high) &&& x15) = 0 then
    j16
  else
    if ((I x_flow f_Flow_low) &&& x15) = 0 then
      j16
    else
      lb (ui I x_flow f_Flow_high (0 : Int32)) fun I33 =>
      some ((), I33, J)
set_option maxRecDepth 100000 in
theorem cm_X1_join (b : Bool) (l1 : Int32) (l2 : Int32) (I : HI) (J : HJ) : CM mX1_join 1 0 0 [.ref 17, .int l1, .int l2] (zs b, I, J) (fV (zs b)) (F_X1_join l1 l2 I J) := by
  refine S.of okX1_join pn_X1 (Nat.le_of_ble_eq_true rfl) ?_
  refine S.sub (lv' := [(0, .ref 17), (1, .int l1), (2, .int l2)]) [0, 1, 2] rfl ?_
  unfold F_X1_join
  refine S.iconst (1 : Int32) 0 rfl (by decide) ?_
  refine S.iload_n 1 1 rfl rfl ?_
  refine S.ishl 2 rfl ?_
  refine S.nmi (fun x14 => ?_)
  refine S.istore_n [(3, .int x14), (0, .ref 17), (1, .int l1), (2, .int l2)] 3 rfl (by decide) rfl ?_
  refine S.iload_n 4 0 rfl rfl ?_
  refine S.iconst (1 : Int32) 5 rfl (by decide) ?_
  refine S.iload_n 6 3 rfl rfl ?_
  refine S.ishl 7 rfl ?_
  refine S.ior 8 rfl ?_
  refine S.nmi (fun x15 => ?_)
  refine S.istore [(4, .int x15), (3, .int x14), (0, .ref 17), (1, .int l1), (2, .int l2)] 9 rfl (by decide) rfl ?_
  refine S.aload_n 10 2 rfl rfl ?_
  refine S.getI 11 rfl fo_X1_69 rfl rfl ?_
  refine S.iload 12 0 rfl rfl ?_
  refine S.iand 13 rfl ?_
  refine S.jn (fun j => S (fV (zs b)) mX1_join (rmd 1 0 0) 0 0 (0, 0) 37 [(0, .ref 17), (1, .int l1), (2, .int l2), (3, .int x14), (4, .int x15)] [] (zs b, I, J) (j)) ?_ (fun j16 hj16 => ?_)
  · refine S.aload_n 24 0 rfl rfl ?_
    refine S.getI 25 rfl fo_X1_69 rfl rfl ?_
    refine S.aload_n 26 0 rfl rfl ?_
    refine S.getI 27 rfl fo_X1_72 rfl rfl ?_
    refine S.ior 28 rfl ?_
    refine S.iload_n 29 3 rfl rfl ?_
    refine S.iand 30 rfl ?_
    refine S.jn (fun j => ∀ (I17 : HI), S (fV (zs b)) mX1_join (rmd 1 0 0) 0 0 (0, 0) 63 [(0, .ref 17), (1, .int l1), (2, .int l2), (3, .int x14), (4, .int x15)] [] (zs b, I17, J) (j I17)) (fun I17 => ?_) (fun j18 hj18 => ?_)
    · refine S.aload_n 40 0 rfl rfl ?_
      refine S.aload_n 41 0 rfl rfl ?_
      refine S.getI 42 rfl fo_X1_69 rfl rfl ?_
      refine S.iload 43 4 rfl rfl ?_
      refine S.iand 44 rfl ?_
      refine S.jn (fun j => ∀ (y19 : Int32), S (fV (zs b)) mX1_join (rmd 1 0 0) 0 0 (0, 0) 92 [(0, .ref 17), (1, .int l1), (2, .int l2), (3, .int x14), (4, .int x15)] [.int y19, .ref 17] (zs b, I17, J) (j y19)) (fun y19 => ?_) (fun j20 hj20 => ?_)
      · refine S.putI 57 rfl fo_X1_69 rfl rfl rfl rfl (fun _ hq => by cases hq; exact Or.inl rfl) (fun I21 => ?_)
        refine S.aload_n 58 0 rfl rfl ?_
        refine S.aload_n 59 0 rfl rfl ?_
        refine S.getI 60 rfl fo_X1_72 rfl rfl ?_
        refine S.iload 61 4 rfl rfl ?_
        refine S.iand 62 rfl ?_
        refine S.jn (fun j => ∀ (y22 : Int32), S (fV (zs b)) mX1_join (rmd 1 0 0) 0 0 (0, 0) 124 [(0, .ref 17), (1, .int l1), (2, .int l2)] [.int y22, .ref 17] (zs b, I21, J) (j y22)) (fun y22 => ?_) (fun j23 hj23 => ?_)
        · refine S.putI 75 rfl fo_X1_72 rfl rfl rfl rfl (fun _ hq => by cases hq; exact Or.inl rfl) (fun I24 => ?_)
          refine S.aload_n 76 0 rfl rfl ?_
          refine S.getR 77 rfl fo_X1_15 rfl rfl rfl ?_
          refine S.iload_n 78 1 rfl rfl ?_
          refine S.lald 79 rfl rfl ?_
          refine S.aload_n 80 0 rfl rfl ?_
          refine S.getR 81 rfl fo_X1_19 rfl rfl rfl ?_
          refine S.iload_n 82 2 rfl rfl ?_
          refine S.lald 83 rfl rfl ?_
          refine S.land 84 rfl ?_
          refine S.aload_n 85 0 rfl rfl ?_
          refine S.getR 86 rfl fo_X1_15 rfl rfl rfl ?_
          refine S.iload_n 87 2 rfl rfl ?_
          refine S.lald 88 rfl rfl ?_
          refine S.aload_n 89 0 rfl rfl ?_
          refine S.getR 90 rfl fo_X1_19 rfl rfl rfl ?_
          refine S.iload_n 91 1 rfl rfl ?_
          refine S.lald 92 rfl rfl ?_
          refine S.land 93 rfl ?_
          refine S.lor 94 rfl ?_
          refine S.nml (fun x25 => ?_)
          refine S.lstore [(5, .long x25), (0, .ref 17), (1, .int l1), (2, .int l2)] 95 rfl (by decide) rfl ?_
          refine S.aload_n 96 1 rfl rfl ?_
          refine S.getR 97 rfl fo_X1_15 rfl rfl rfl ?_
          refine S.iload_n 98 2 rfl rfl ?_
          refine S.aload_n 99 1 rfl rfl ?_
          refine S.getR 100 rfl fo_X1_15 rfl rfl rfl ?_
          refine S.iload_n 101 2 rfl rfl ?_
          refine S.lald 102 rfl rfl ?_
          refine S.aload_n 103 1 rfl rfl ?_
          refine S.getR 104 rfl fo_X1_15 rfl rfl rfl ?_
          refine S.iload_n 105 3 rfl rfl ?_
          refine S.lald 106 rfl rfl ?_
          refine S.lor 107 rfl ?_
          refine S.lload 108 0 rfl rfl ?_
          refine S.ldc2 (-1 : Int64) 109 rfl ko_X1_86 ?_
          refine S.lxor 110 rfl ?_
          refine S.land 111 rfl ?_
          refine S.last 112 rfl rfl (fun J26 => ?_)
          refine S.aload_n 113 1 rfl rfl ?_
          refine S.getR 114 rfl fo_X1_19 rfl rfl rfl ?_
          refine S.iload_n 115 2 rfl rfl ?_
          refine S.aload_n 116 1 rfl rfl ?_
          refine S.getR 117 rfl fo_X1_19 rfl rfl rfl ?_
          refine S.iload_n 118 2 rfl rfl ?_
          refine S.lald 119 rfl rfl ?_
          refine S.aload_n 120 1 rfl rfl ?_
          refine S.getR 121 rfl fo_X1_19 rfl rfl rfl ?_
          refine S.iload_n 122 3 rfl rfl ?_
          refine S.lald 123 rfl rfl ?_
          refine S.lor 124 rfl ?_
          refine S.lload 125 0 rfl rfl ?_
          refine S.ldc2 (-1 : Int64) 126 rfl ko_X1_86 ?_
          refine S.lxor 127 rfl ?_
          refine S.land 128 rfl ?_
          refine S.last 129 rfl rfl (fun J27 => ?_)
          refine S.aload_n 130 1 rfl rfl ?_
          refine S.getR 131 rfl fo_X1_15 rfl rfl rfl ?_
          refine S.iload_n 132 3 rfl rfl ?_
          refine S.lconst (0 : Int64) 133 rfl (by decide) ?_
          refine S.last 134 rfl rfl (fun J28 => ?_)
          refine S.aload_n 135 1 rfl rfl ?_
          refine S.getR 136 rfl fo_X1_19 rfl rfl rfl ?_
          refine S.iload_n 137 3 rfl rfl ?_
          refine S.lconst (0 : Int64) 138 rfl (by decide) ?_
          refine S.last 139 rfl rfl (fun J29 => ?_)
          refine S.aload_n 140 1 rfl rfl ?_
          refine S.iload_n 141 3 rfl rfl ?_
          refine S.putI 142 rfl fo_X1_38 rfl rfl rfl rfl (fun _ hq => by cases hq; exact Or.inl rfl) (fun I30 => ?_)
          refine S.aload_n 143 1 rfl rfl ?_
          refine S.iload_n 144 2 rfl rfl ?_
          refine S.putI 145 rfl fo_X1_41 rfl rfl rfl rfl (fun _ hq => by cases hq; exact Or.inl rfl) (fun I31 => ?_)
          exact S.vret 146 rfl rfl (Nat.le_refl _) (Nat.le_refl _) rfl
        · refine S.if_ne 113 63 rfl (by decide) (fun _ => ?_) (fun _ => ?_)
          · refine S.aload_n 67 0 rfl rfl ?_
            refine S.getI 68 rfl fo_X1_72 rfl rfl ?_
            refine S.iload 69 4 rfl rfl ?_
            refine S.iconst (-1 : Int32) 70 rfl (by decide) ?_
            refine S.ixor 71 rfl ?_
            refine S.iand 72 rfl ?_
            refine S.iload_n 73 3 rfl rfl ?_
            refine S.ior 74 rfl ?_
            refine S.sub (lv' := [(0, .ref 17), (1, .int l1), (2, .int l2)]) [0, 1, 2] rfl ?_
            exact hj23 _
          · refine S.aload_n 64 0 rfl rfl ?_
            refine S.getI 65 rfl fo_X1_72 rfl rfl ?_
            refine S.goto 124 66 rfl (by decide) ?_
            refine S.sub (lv' := [(0, .ref 17), (1, .int l1), (2, .int l2)]) [0, 1, 2] rfl ?_
            exact hj23 _
      · refine S.if_ne 81 45 rfl (by decide) (fun _ => ?_) (fun _ => ?_)
        · refine S.aload_n 49 0 rfl rfl ?_
          refine S.getI 50 rfl fo_X1_69 rfl rfl ?_
          refine S.iload 51 4 rfl rfl ?_
          refine S.iconst (-1 : Int32) 52 rfl (by decide) ?_
          refine S.ixor 53 rfl ?_
          refine S.iand 54 rfl ?_
          refine S.iload_n 55 3 rfl rfl ?_
          refine S.ior 56 rfl ?_
          exact hj20 _
        · refine S.aload_n 46 0 rfl rfl ?_
          refine S.getI 47 rfl fo_X1_69 rfl rfl ?_
          refine S.goto 92 48 rfl (by decide) ?_
          exact hj20 _
    · refine S.if_ne 63 31 rfl (by decide) (fun _ => ?_) (fun _ => ?_)
      · exact hj18 _
      · refine S.aload_n 32 0 rfl rfl ?_
        refine S.getR 33 rfl fo_X1_9 rfl rfl rfl ?_
        refine S.iload_n 34 1 rfl rfl ?_
        refine S.aload_n 35 0 rfl rfl ?_
        refine S.getR 36 rfl fo_X1_9 rfl rfl rfl ?_
        refine S.iload_n 37 2 rfl rfl ?_
        refine S.iald 38 rfl rfl ?_
        refine S.iast 39 rfl rfl (fun I32 => ?_)
        exact hj18 _
  · refine S.if_eq 37 14 rfl (by decide) (fun _ => ?_) (fun _ => ?_)
    · refine S.sub (lv' := [(0, .ref 17), (1, .int l1), (2, .int l2), (3, .int x14), (4, .int x15)]) [2, 3, 4, 1, 0] rfl ?_
      exact hj16
    · refine S.aload_n 15 2 rfl rfl ?_
      refine S.getI 16 rfl fo_X1_72 rfl rfl ?_
      refine S.iload 17 0 rfl rfl ?_
      refine S.iand 18 rfl ?_
      refine S.if_eq 37 19 rfl (by decide) (fun _ => ?_) (fun _ => ?_)
      · refine S.sub (lv' := [(0, .ref 17), (1, .int l1), (2, .int l2), (3, .int x14), (4, .int x15)]) [2, 3, 4, 1, 0] rfl ?_
        exact hj16
      · refine S.aload_n 20 2 rfl rfl ?_
        refine S.iconst (0 : Int32) 21 rfl (by decide) ?_
        refine S.putI 22 rfl fo_X1_69 rfl rfl rfl rfl (fun _ hq => by cases hq; exact Or.inl rfl) (fun I33 => ?_)
        exact S.vret 23 rfl rfl (Nat.le_refl _) (Nat.le_refl _) rfl
def F_X1_cut (l1 : Int32) (I : HI) (J : HJ) : Option (Unit × HI × HJ) :=
  bx l1 10 <|
  lb (uj J x_flow_out (Int32.toNatClampNeg l1) (0 : Int64)) fun J3 =>
  bx l1 10 <|
  lb (uj J3 x_flow_into (Int32.toNatClampNeg l1) (0 : Int64)) fun J4 =>
  some ((), I, J4)
set_option maxRecDepth 100000 in
theorem cm_X1_cut (b : Bool) (l1 : Int32) (I : HI) (J : HJ) : CM mX1_cut 1 0 0 [.ref 17, .int l1] (zs b, I, J) (fV (zs b)) (F_X1_cut l1 I J) := by
  refine S.of okX1_cut pn_X1 (Nat.le_of_ble_eq_true rfl) ?_
  refine S.sub (lv' := [(0, .ref 17), (1, .int l1)]) [0, 1] rfl ?_
  unfold F_X1_cut
  refine S.aload_n 0 0 rfl rfl ?_
  refine S.getR 1 rfl fo_X1_15 rfl rfl rfl ?_
  refine S.iload_n 2 1 rfl rfl ?_
  refine S.lconst (0 : Int64) 3 rfl (by decide) ?_
  refine S.last 4 rfl rfl (fun J3 => ?_)
  refine S.aload_n 5 0 rfl rfl ?_
  refine S.getR 6 rfl fo_X1_19 rfl rfl rfl ?_
  refine S.iload_n 7 1 rfl rfl ?_
  refine S.lconst (0 : Int64) 8 rfl (by decide) ?_
  refine S.last 9 rfl rfl (fun J4 => ?_)
  exact S.vret 10 rfl rfl (Nat.le_refl _) (Nat.le_refl _) rfl

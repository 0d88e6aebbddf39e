/-! computations and their proofs: X11 -/
def F_X11_sign (l1 : Int32) (I : HI) (J : HJ) : Option (Int32 × HI × HJ) :=
  cl (F_X9_append l1 I J) fun r1 I2 J3 =>
  if r1 = 0 then
    some ((-1 : Int32), I2, J3)
  else
    some ((I2 x_text f_Text_size), I2, J3)
set_option maxRecDepth 100000 in
theorem cm_X11_sign (b : Bool) (l1 : Int32) (I : HI) (J : HJ) : CM mX11_sign 2 0 0 [.ref 0, .int l1] (zs b, I, J) (fI (zs b)) (F_X11_sign l1 I J) := by
  refine S.of okX11_sign pn_X11 (Nat.le_of_ble_eq_true rfl) ?_
  refine S.sub (lv' := [(0, .ref 0), (1, .int l1)]) [0, 1] rfl ?_
  unfold F_X11_sign
  refine S.aload_n 0 0 rfl rfl ?_
  refine S.getR 1 rfl fo_X11_19 rfl rfl rfl ?_
  refine S.iload_n 2 1 rfl rfl ?_
  refine S.cVI (d := 1) (av := [.int l1]) (rs := [.int l1]) (b := 8) 3 rfl co_X11_98 rfl rfl rfl rfl rfl ⟨⟨Nat.le_of_ble_eq_true rfl, Nat.le_of_ble_eq_true rfl⟩, ⟨Nat.le_of_ble_eq_true rfl, Nat.le_of_ble_eq_true rfl⟩, Nat.le_of_ble_eq_true rfl⟩ (cm_X9_append b l1 I J) (fun r1 I2 J3 => ?_)
  refine S.if_eq 21 4 rfl (by decide) (fun _ => ?_) (fun _ => ?_)
  · refine S.iconst (-1 : Int32) 9 rfl (by decide) ?_
    exact S.iret 10 rfl rfl rfl (Nat.le_refl _) (Nat.le_refl _) rfl
  · refine S.aload_n 5 0 rfl rfl ?_
    refine S.getR 6 rfl fo_X11_19 rfl rfl rfl ?_
    refine S.getI 7 rfl fo_X11_102 rfl rfl ?_
    refine S.goto 22 8 rfl (by decide) ?_
    exact S.iret 10 rfl rfl rfl (Nat.le_refl _) (Nat.le_refl _) rfl
def F_X11_end (l1 : Int32) (I : HI) (J : HJ) : Option (Int32 × HI × HJ) :=
  if l1 < 0 then
    some ((0 : Int32), I, J)
  else
    if l1 ≤ (I x_text f_Text_size) then
      lb (ui I x_text f_Text_size l1) fun I2 =>
      some ((1 : Int32), I2, J)
    else
      some ((0 : Int32), I, J)
set_option maxRecDepth 100000 in
theorem cm_X11_end (b : Bool) (l1 : Int32) (I : HI) (J : HJ) : CM mX11_end 1 0 0 [.ref 0, .int l1] (zs b, I, J) (fI (zs b)) (F_X11_end l1 I J) := by
  refine S.of okX11_end pn_X11 (Nat.le_of_ble_eq_true rfl) ?_
  refine S.sub (lv' := [(0, .ref 0), (1, .int l1)]) [0, 1] rfl ?_
  unfold F_X11_end
  refine S.iload_n 0 1 rfl rfl ?_
  refine S.if_lt 15 1 rfl (by decide) (fun _ => ?_) (fun _ => ?_)
  · refine S.iconst (0 : Int32) 7 rfl (by decide) ?_
    exact S.iret 8 rfl rfl rfl (Nat.le_refl _) (Nat.le_refl _) rfl
  · refine S.iload_n 2 1 rfl rfl ?_
    refine S.aload_n 3 0 rfl rfl ?_
    refine S.getR 4 rfl fo_X11_19 rfl rfl rfl ?_
    refine S.getI 5 rfl fo_X11_102 rfl rfl ?_
    refine S.icmp_le 17 6 rfl (by decide) (fun _ => ?_) (fun _ => ?_)
    · refine S.aload_n 9 0 rfl rfl ?_
      refine S.getR 10 rfl fo_X11_19 rfl rfl rfl ?_
      refine S.iload_n 11 1 rfl rfl ?_
      refine S.putI 12 rfl fo_X11_102 rfl rfl rfl rfl (fun _ hq => by cases hq; exact Or.inl rfl) (fun I2 => ?_)
      refine S.iconst (1 : Int32) 13 rfl (by decide) ?_
      exact S.iret 14 rfl rfl rfl (Nat.le_refl _) (Nat.le_refl _) rfl
    · refine S.iconst (0 : Int32) 7 rfl (by decide) ?_
      exact S.iret 8 rfl rfl rfl (Nat.le_refl _) (Nat.le_refl _) rfl
def F_X11_takeLine_L50 (J : HJ) : Nat → Int32 → HI → Option (Unit × HI × HJ)
  | 0, _, _ => none
  | K+1, l4, I =>
    if (2 : Int32) ≤ l4 then
      some ((), I, J)
    else
      bx l4 2 <|
      if Int32.toNatClampNeg l4 = 0 then
        lb (ui I x_kept_0 f_Kept_full (0 : Int32)) fun I17 =>
        F_X11_takeLine_L50 J K (l4 + 1) I17
      else
        lb (ui I x_kept_1 f_Kept_full (0 : Int32)) fun I18 =>
        F_X11_takeLine_L50 J K (l4 + 1) I18
set_option maxRecDepth 100000 in
theorem s_X11_takeLine_L50 (b : Bool) (J : HJ) : ∀ (K : Nat) (l4 : Int32) (I : HI), S (fV (zs b)) mX11_takeLine (rmd 4 0 0) 0 0 (0, 0) 50 [(0, .ref 0), (4, .int l4)] [] (zs b, I, J) (F_X11_takeLine_L50 J K l4 I) := by
  intro K
  induction K with
  | zero => intro l4 I; exact S.none
  | succ K ih =>
    intro l4 I
    rw [F_X11_takeLine_L50]
    refine S.iload 27 1 rfl rfl ?_
    refine S.aload_n 28 0 rfl rfl ?_
    refine S.getR 29 rfl fo_X11_94 rfl rfl rfl ?_
    refine S.alen (2 : Int32) 30 rfl rfl (by decide) (by decide) (by decide) ?_
    refine S.icmp_ge 77 31 rfl (by decide) (fun _ => ?_) (fun _ => ?_)
    · refine S.goto 131 40 rfl (by decide) ?_
      exact S.vret 68 rfl rfl (Nat.le_refl _) (Nat.le_refl _) rfl
    · refine S.aload_n 32 0 rfl rfl ?_
      refine S.getR 33 rfl fo_X11_94 rfl rfl rfl ?_
      refine S.iload 34 1 rfl rfl ?_
      refine S.gbx (fun hin => ?_)
      refine S.ite (fun c => ?_) (fun c => ?_)
      · refine S.aaldN 35 rfl rfl hin (by rw [c]; rfl) ?_
        refine S.iconst (0 : Int32) 36 rfl (by decide) ?_
        refine S.putI 37 rfl fo_X11_396 rfl rfl (by decide) (by decide) (fun _ hq => by cases hq; exact Or.inl rfl) (fun I17 => ?_)
        refine S.iinc (l4 + 1) [(4, .int (l4 + 1)), (0, .ref 0)] 38 1 rfl rfl rfl (by decide) rfl ?_
        refine S.goto 50 39 rfl (by decide) ?_
        refine S.sub (lv' := [(0, .ref 0), (4, .int (l4 + 1))]) [1, 0] rfl ?_
        exact ih _ _
      · refine S.aaldN 35 rfl rfl hin (by have h9 : Int32.toNatClampNeg l4 < 2 := Nat.lt_of_not_le fun z => hin (Or.inr z); rw [show Int32.toNatClampNeg l4 = 1 by omega]; rfl) ?_
        refine S.iconst (0 : Int32) 36 rfl (by decide) ?_
        refine S.putI 37 rfl fo_X11_396 rfl rfl (by decide) (by decide) (fun _ hq => by cases hq; exact Or.inl rfl) (fun I18 => ?_)
        refine S.iinc (l4 + 1) [(4, .int (l4 + 1)), (0, .ref 0)] 38 1 rfl rfl rfl (by decide) rfl ?_
        refine S.goto 50 39 rfl (by decide) ?_
        refine S.sub (lv' := [(0, .ref 0), (4, .int (l4 + 1))]) [1, 0] rfl ?_
        exact ih _ _
def F_X11_takeLine (l1 : Int32) (I : HI) (J : HJ) : Option (Unit × HI × HJ) :=
  bx l1 76 <|
  lb ((I x_reader_kinds (Int32.toNatClampNeg l1))) fun x6 =>
  bx l1 76 <|
  lb ((I x_reader_numbers (Int32.toNatClampNeg l1))) fun x7 =>
  if x6 = 0 then
    cl (F_X0_startAnew x7 I J) fun _ I12 J13 =>
    cl (F_X3_clear_25 I12 J13) fun _ I14 J15 =>
    lb (ui I14 x_plan f_Plan_tests (0 : Int32)) fun I16 =>
    F_X11_takeLine_L50 J15 bgf (0 : Int32) I16
  else
    if x6 = (1 : Int32) then
      bx l1 76 <|
      cl (F_X0_resist (I x_reader_wires (Int32.toNatClampNeg l1)) x7 I J) fun _ I10 J11 =>
      some ((), I10, J11)
    else
      bx l1 76 <|
      bx l1 76 <|
      cl (F_X0_add (I x_reader_wires (Int32.toNatClampNeg l1)) (I x_reader_goals (Int32.toNatClampNeg l1)) x7 I J) fun _ I8 J9 =>
      some ((), I8, J9)
set_option maxRecDepth 100000 in
theorem cm_X11_takeLine (b : Bool) (l1 : Int32) (I : HI) (J : HJ) : CM mX11_takeLine 4 0 0 [.ref 0, .int l1] (zs b, I, J) (fV (zs b)) (F_X11_takeLine l1 I J) := by
  refine S.of okX11_takeLine pn_X11 (Nat.le_of_ble_eq_true rfl) ?_
  refine S.sub (lv' := [(0, .ref 0), (1, .int l1)]) [0, 1] rfl ?_
  unfold F_X11_takeLine
  refine S.aload_n 0 0 rfl rfl ?_
  refine S.getR 1 rfl fo_X11_28 rfl rfl rfl ?_
  refine S.getR 2 rfl fo_X11_406 rfl rfl rfl ?_
  refine S.iload_n 3 1 rfl rfl ?_
  refine S.iald 4 rfl rfl ?_
  refine S.nmi (fun x6 => ?_)
  refine S.istore_n [(2, .int x6), (0, .ref 0), (1, .int l1)] 5 rfl (by decide) rfl ?_
  refine S.aload_n 6 1 rfl rfl ?_
  refine S.getR 7 rfl fo_X11_28 rfl rfl rfl ?_
  refine S.getR 8 rfl fo_X11_409 rfl rfl rfl ?_
  refine S.iload_n 9 2 rfl rfl ?_
  refine S.iald 10 rfl rfl ?_
  refine S.nmi (fun x7 => ?_)
  refine S.istore_n [(3, .int x7), (2, .int x6), (0, .ref 0), (1, .int l1)] 11 rfl (by decide) rfl ?_
  refine S.iload_n 12 1 rfl rfl ?_
  refine S.if_ne 80 13 rfl (by decide) (fun _ => ?_) (fun _ => ?_)
  · refine S.iload_n 41 1 rfl rfl ?_
    refine S.iconst (1 : Int32) 42 rfl (by decide) ?_
    refine S.icmp_ne 105 43 rfl (by decide) (fun _ => ?_) (fun _ => ?_)
    · refine S.aload_n 54 2 rfl rfl ?_
      refine S.getR 55 rfl fo_X11_10 rfl rfl rfl ?_
      refine S.aload_n 56 2 rfl rfl ?_
      refine S.getR 57 rfl fo_X11_28 rfl rfl rfl ?_
      refine S.getR 58 rfl fo_X11_415 rfl rfl rfl ?_
      refine S.iload_n 59 3 rfl rfl ?_
      refine S.iald 60 rfl rfl ?_
      refine S.aload_n 61 2 rfl rfl ?_
      refine S.getR 62 rfl fo_X11_28 rfl rfl rfl ?_
      refine S.getR 63 rfl fo_X11_421 rfl rfl rfl ?_
      refine S.iload_n 64 3 rfl rfl ?_
      refine S.iald 65 rfl rfl ?_
      refine S.iload_n 66 0 rfl rfl ?_
      refine S.cVV (d := 2) (av := [.int (I x_reader_wires (Int32.toNatClampNeg l1)), .int (I x_reader_goals (Int32.toNatClampNeg l1)), .int x7]) (rs := [.int x7, .int (I x_reader_goals (Int32.toNatClampNeg l1)), .int (I x_reader_wires (Int32.toNatClampNeg l1))]) (b := 1) 67 rfl co_X11_424 rfl rfl rfl rfl rfl ⟨⟨Nat.le_of_ble_eq_true rfl, Nat.le_of_ble_eq_true rfl⟩, ⟨Nat.le_of_ble_eq_true rfl, Nat.le_of_ble_eq_true rfl⟩, Nat.le_of_ble_eq_true rfl⟩ (cm_X0_add b (I x_reader_wires (Int32.toNatClampNeg l1)) (I x_reader_goals (Int32.toNatClampNeg l1)) x7 I J) (fun _ I8 J9 => ?_)
      exact S.vret 68 rfl rfl (Nat.le_refl _) (Nat.le_refl _) rfl
    · refine S.aload_n 44 2 rfl rfl ?_
      refine S.getR 45 rfl fo_X11_10 rfl rfl rfl ?_
      refine S.aload_n 46 2 rfl rfl ?_
      refine S.getR 47 rfl fo_X11_28 rfl rfl rfl ?_
      refine S.getR 48 rfl fo_X11_415 rfl rfl rfl ?_
      refine S.iload_n 49 3 rfl rfl ?_
      refine S.iald 50 rfl rfl ?_
      refine S.iload_n 51 0 rfl rfl ?_
      refine S.cVV (d := 2) (av := [.int (I x_reader_wires (Int32.toNatClampNeg l1)), .int x7]) (rs := [.int x7, .int (I x_reader_wires (Int32.toNatClampNeg l1))]) (b := 1) 52 rfl co_X11_418 rfl rfl rfl rfl rfl ⟨⟨Nat.le_of_ble_eq_true rfl, Nat.le_of_ble_eq_true rfl⟩, ⟨Nat.le_of_ble_eq_true rfl, Nat.le_of_ble_eq_true rfl⟩, Nat.le_of_ble_eq_true rfl⟩ (cm_X0_resist b (I x_reader_wires (Int32.toNatClampNeg l1)) x7 I J) (fun _ I10 J11 => ?_)
      refine S.goto 131 53 rfl (by decide) ?_
      exact S.vret 68 rfl rfl (Nat.le_refl _) (Nat.le_refl _) rfl
  · refine S.aload_n 14 2 rfl rfl ?_
    refine S.getR 15 rfl fo_X11_10 rfl rfl rfl ?_
    refine S.iload_n 16 0 rfl rfl ?_
    refine S.cVV (d := 3) (av := [.int x7]) (rs := [.int x7]) (b := 1) 17 rfl co_X11_411 rfl rfl rfl rfl rfl ⟨⟨Nat.le_of_ble_eq_true rfl, Nat.le_of_ble_eq_true rfl⟩, ⟨Nat.le_of_ble_eq_true rfl, Nat.le_of_ble_eq_true rfl⟩, Nat.le_of_ble_eq_true rfl⟩ (cm_X0_startAnew b x7 I J) (fun _ I12 J13 => ?_)
    refine S.aload_n 18 2 rfl rfl ?_
    refine S.getR 19 rfl fo_X11_51 rfl rfl rfl ?_
    refine S.cVV (d := 2) (av := []) (rs := []) (b := 25) 20 rfl co_X11_414 rfl rfl rfl rfl rfl ⟨⟨Nat.le_of_ble_eq_true rfl, Nat.le_of_ble_eq_true rfl⟩, ⟨Nat.le_of_ble_eq_true rfl, Nat.le_of_ble_eq_true rfl⟩, Nat.le_of_ble_eq_true rfl⟩ (cm_X3_clear_25 b I12 J13) (fun _ I14 J15 => ?_)
    refine S.aload_n 21 2 rfl rfl ?_
    refine S.getR 22 rfl fo_X11_87 rfl rfl rfl ?_
    refine S.iconst (0 : Int32) 23 rfl (by decide) ?_
    refine S.putI 24 rfl fo_X11_371 rfl rfl rfl rfl (fun _ hq => by cases hq; exact Or.inl rfl) (fun I16 => ?_)
    refine S.iconst (0 : Int32) 25 rfl (by decide) ?_
    refine S.istore [(4, .int (0 : Int32)), (3, .int x7), (2, .int x6), (0, .ref 0), (1, .int l1)] 26 rfl (by decide) rfl ?_
    refine S.sub (lv' := [(0, .ref 0), (4, .int (0 : Int32))]) [3, 0] rfl ?_
    refine s_X11_takeLine_L50 b _ bgf _ _
def F_X11_board_L41 (kx63 : HI → HJ → Option (Int32 × HI × HJ)) : Nat → Int32 → HI → HJ → Option (Int32 × HI × HJ)
  | 0, _, _, _ => none
  | K+1, l2, I, J =>
    if (I x_reader f_Reader_lines) ≤ l2 then
      kx63 I J
    else
      cl (F_X11_takeLine l2 I J) fun _ I7 J8 =>
      F_X11_board_L41 kx63 K (l2 + 1) I7 J8
set_option maxRecDepth 100000 in
theorem s_X11_board_L41 (b : Bool) (kx63 : HI → HJ → Option (Int32 × HI × HJ)) (hkx63 : ∀ (I1 : HI) (J1 : HJ), S (fI (zs b)) mX11_board (rmd 6 0 0) 0 0 (0, 0) 63 [(0, .ref 0)] [] (zs b, I1, J1) (kx63 I1 J1)) : ∀ (K : Nat) (l2 : Int32) (I : HI) (J : HJ), S (fI (zs b)) mX11_board (rmd 6 0 0) 0 0 (0, 0) 41 [(0, .ref 0), (2, .int l2)] [] (zs b, I, J) (F_X11_board_L41 kx63 K l2 I J) := by
  intro K
  induction K with
  | zero => intro l2 I J; exact S.none
  | succ K ih =>
    intro l2 I J
    rw [F_X11_board_L41]
    refine S.iload_n 23 1 rfl rfl ?_
    refine S.aload_n 24 0 rfl rfl ?_
    refine S.getR 25 rfl fo_X11_28 rfl rfl rfl ?_
    refine S.getI 26 rfl fo_X11_116 rfl rfl ?_
    refine S.icmp_ge 63 27 rfl (by decide) (fun _ => ?_) (fun _ => ?_)
    · refine S.sub (lv' := [(0, .ref 0)]) [0] rfl ?_
      exact hkx63 _ _
    · refine S.aload_n 28 0 rfl rfl ?_
      refine S.iload_n 29 1 rfl rfl ?_
      refine S.cVV (d := 4) (av := [.int l2]) (rs := [.int l2]) (b := 0) 30 rfl co_X11_119 rfl rfl rfl rfl rfl ⟨⟨Nat.le_of_ble_eq_true rfl, Nat.le_of_ble_eq_true rfl⟩, ⟨Nat.le_of_ble_eq_true rfl, Nat.le_of_ble_eq_true rfl⟩, Nat.le_of_ble_eq_true rfl⟩ (cm_X11_takeLine b l2 I J) (fun _ I7 J8 => ?_)
      refine S.iinc (l2 + 1) [(2, .int (l2 + 1)), (0, .ref 0)] 31 1 rfl rfl rfl (by decide) rfl ?_
      refine S.goto 41 32 rfl (by decide) ?_
      refine S.sub (lv' := [(0, .ref 0), (2, .int (l2 + 1))]) [1, 0] rfl ?_
      exact ih _ _ _
def F_X11_board  (I : HI) (J : HJ) : Option (Int32 × HI × HJ) :=
  cl (F_X6_read (I x_board f_Board_wide) (I x_board f_Board_lamps) I J) fun r3 I4 J5 =>
  lb (ui I4 x_text f_Text_size (0 : Int32)) fun I6 =>
  if r3 = (-1 : Int32) then
    F_X11_board_L41 (fun (I9 : HI) (J10 : HJ) =>
    lb (ui I9 x_table f_Table_fresh (0 : Int32)) fun I11 =>
    some ((I11 x_reader f_Reader_lines), I11, J10)) bgf (0 : Int32) I6 J5
  else
    some (((-1 : Int32) - r3), I6, J5)
set_option maxRecDepth 100000 in
theorem cm_X11_board (b : Bool)  (I : HI) (J : HJ) : CM mX11_board 6 0 0 [.ref 0] (zs b, I, J) (fI (zs b)) (F_X11_board  I J) := by
  refine S.of okX11_board pn_X11 (Nat.le_of_ble_eq_true rfl) ?_
  refine S.sub (lv' := [(0, .ref 0)]) [0] rfl ?_
  unfold F_X11_board
  refine S.aload_n 0 0 rfl rfl ?_
  refine S.getR 1 rfl fo_X11_28 rfl rfl rfl ?_
  refine S.aload_n 2 0 rfl rfl ?_
  refine S.getR 3 rfl fo_X11_10 rfl rfl rfl ?_
  refine S.getI 4 rfl fo_X11_106 rfl rfl ?_
  refine S.aload_n 5 0 rfl rfl ?_
  refine S.getR 6 rfl fo_X11_10 rfl rfl rfl ?_
  refine S.getI 7 rfl fo_X11_109 rfl rfl ?_
  refine S.cVI (d := 5) (av := [.int (I x_board f_Board_wide), .int (I x_board f_Board_lamps)]) (rs := [.int (I x_board f_Board_lamps), .int (I x_board f_Board_wide)]) (b := 10) 8 rfl co_X11_112 rfl rfl rfl rfl rfl ⟨⟨Nat.le_of_ble_eq_true rfl, Nat.le_of_ble_eq_true rfl⟩, ⟨Nat.le_of_ble_eq_true rfl, Nat.le_of_ble_eq_true rfl⟩, Nat.le_of_ble_eq_true rfl⟩ (cm_X6_read b (I x_board f_Board_wide) (I x_board f_Board_lamps) I J) (fun r3 I4 J5 => ?_)
  refine S.istore_n [(1, .int r3), (0, .ref 0)] 9 rfl (by decide) rfl ?_
  refine S.aload_n 10 1 rfl rfl ?_
  refine S.getR 11 rfl fo_X11_19 rfl rfl rfl ?_
  refine S.iconst (0 : Int32) 12 rfl (by decide) ?_
  refine S.putI 13 rfl fo_X11_102 rfl rfl rfl rfl (fun _ hq => by cases hq; exact Or.inl rfl) (fun I6 => ?_)
  refine S.iload_n 14 0 rfl rfl ?_
  refine S.iconst (-1 : Int32) 15 rfl (by decide) ?_
  refine S.icmp_eq 39 16 rfl (by decide) (fun _ => ?_) (fun _ => ?_)
  · refine S.iconst (0 : Int32) 21 rfl (by decide) ?_
    refine S.istore_n [(2, .int (0 : Int32)), (1, .int r3), (0, .ref 0)] 22 rfl (by decide) rfl ?_
    refine S.sub (lv' := [(0, .ref 0), (2, .int (0 : Int32))]) [2, 0] rfl ?_
    refine s_X11_board_L41 b _ (fun I9 J10 => ?_) bgf _ _ _
    refine S.aload_n 33 0 rfl rfl ?_
    refine S.getR 34 rfl fo_X11_60 rfl rfl rfl ?_
    refine S.iconst (0 : Int32) 35 rfl (by decide) ?_
    refine S.putI 36 rfl fo_X11_123 rfl rfl (by decide) (by decide) (fun _ hq => by cases hq; exact Or.inl rfl) (fun I11 => ?_)
    refine S.aload_n 37 0 rfl rfl ?_
    refine S.getR 38 rfl fo_X11_28 rfl rfl rfl ?_
    refine S.getI 39 rfl fo_X11_116 rfl rfl ?_
    exact S.iret 40 rfl rfl rfl (Nat.le_refl _) (Nat.le_refl _) rfl
  · refine S.iconst (-1 : Int32) 17 rfl (by decide) ?_
    refine S.iload_n 18 0 rfl rfl ?_
    refine S.isub 19 rfl ?_
    exact S.iret 20 rfl rfl rfl (Nat.le_refl _) (Nat.le_refl _) rfl
def F_X11_set (l1 : Int32) (l2 : Int32) (I : HI) (J : HJ) : Option (Int32 × HI × HJ) :=
  lb (fun (y8 : Int32) (I9 : HI) =>
  if y8 = (-1 : Int32) then
    some (y8, I9, J)
  else
    lb (ui I9 x_table f_Table_fresh (0 : Int32)) fun I11 =>
    some (y8, I11, J)) fun j10 =>
  lb (
  lb (
  if l1 = (2 : Int32) then
    if l2 < 0 then
      j10 (-1 : Int32) I
    else
      if (99 : Int32) < l2 then
        j10 (-1 : Int32) I
      else
        lb ((I x_board f_Board_faint)) fun x14 =>
        lb (ui I x_board f_Board_faint l2) fun I15 =>
        j10 x14 I15
  else
    j10 (-1 : Int32) I) fun j13 =>
  if l1 = (1 : Int32) then
    if l2 < (1 : Int32) then
      j13
    else
      if (3 : Int32) < l2 then
        j13
      else
        lb ((I x_board f_Board_depth)) fun x16 =>
        lb (ui I x_board f_Board_depth l2) fun I17 =>
        j10 x16 I17
  else
    j13) fun j12 =>
  if l1 = 0 then
    if l2 < (1 : Int32) then
      j12
    else
      if (20 : Int32) < l2 then
        j12
      else
        lb ((I x_board f_Board_supply)) fun x18 =>
        lb (ui I x_board f_Board_supply l2) fun I19 =>
        j10 x18 I19
  else
    j12
set_option maxRecDepth 100000 in
theorem cm_X11_set (b : Bool) (l1 : Int32) (l2 : Int32) (I : HI) (J : HJ) : CM mX11_set 1 0 0 [.ref 0, .int l1, .int l2] (zs b, I, J) (fI (zs b)) (F_X11_set l1 l2 I J) := by
  refine S.of okX11_set pn_X11 (Nat.le_of_ble_eq_true rfl) ?_
  refine S.sub (lv' := [(0, .ref 0), (1, .int l1), (2, .int l2)]) [0, 1, 2] rfl ?_
  unfold F_X11_set
  refine S.iconst (-1 : Int32) 0 rfl (by decide) ?_
  refine S.istore_n [(3, .int (-1 : Int32)), (0, .ref 0), (1, .int l1), (2, .int l2)] 1 rfl (by decide) rfl ?_
  refine S.iload_n 2 2 rfl rfl ?_
  refine S.jn (fun j => ∀ (y8 : Int32) (I9 : HI), S (fI (zs b)) mX11_set (rmd 1 0 0) 0 0 (0, 0) 101 [(0, .ref 0), (3, .int y8)] [] (zs b, I9, J) (j y8 I9)) (fun y8 I9 => ?_) (fun j10 hj10 => ?_)
  · refine S.iload_n 53 1 rfl rfl ?_
    refine S.iconst (-1 : Int32) 54 rfl (by decide) ?_
    refine S.icmp_eq 114 55 rfl (by decide) (fun _ => ?_) (fun _ => ?_)
    · refine S.iload_n 60 1 rfl rfl ?_
      exact S.iret 61 rfl rfl rfl (Nat.le_refl _) (Nat.le_refl _) rfl
    · refine S.aload_n 56 0 rfl rfl ?_
      refine S.getR 57 rfl fo_X11_60 rfl rfl rfl ?_
      refine S.iconst (0 : Int32) 58 rfl (by decide) ?_
      refine S.putI 59 rfl fo_X11_123 rfl rfl (by decide) (by decide) (fun _ hq => by cases hq; exact Or.inl rfl) (fun I11 => ?_)
      refine S.iload_n 60 1 rfl rfl ?_
      exact S.iret 61 rfl rfl rfl (Nat.le_refl _) (Nat.le_refl _) rfl
  · refine S.jn (fun j => S (fI (zs b)) mX11_set (rmd 1 0 0) 0 0 (0, 0) 36 [(0, .ref 0), (1, .int l1), (2, .int l2), (3, .int (-1 : Int32))] [] (zs b, I, J) (j)) ?_ (fun j12 hj12 => ?_)
    · refine S.iload_n 19 1 rfl rfl ?_
      refine S.iconst (1 : Int32) 20 rfl (by decide) ?_
      refine S.jn (fun j => S (fI (zs b)) mX11_set (rmd 1 0 0) 0 0 (0, 0) 70 [(0, .ref 0), (1, .int l1), (2, .int l2), (3, .int (-1 : Int32))] [] (zs b, I, J) (j)) ?_ (fun j13 hj13 => ?_)
      · refine S.iload_n 37 1 rfl rfl ?_
        refine S.iconst (2 : Int32) 38 rfl (by decide) ?_
        refine S.icmp_ne 101 39 rfl (by decide) (fun _ => ?_) (fun _ => ?_)
        · refine S.sub (lv' := [(0, .ref 0), (3, .int (-1 : Int32))]) [0, 3] rfl ?_
          exact hj10 _ _
        · refine S.iload_n 40 2 rfl rfl ?_
          refine S.if_lt 101 41 rfl (by decide) (fun _ => ?_) (fun _ => ?_)
          · refine S.sub (lv' := [(0, .ref 0), (3, .int (-1 : Int32))]) [0, 3] rfl ?_
            exact hj10 _ _
          · refine S.iload_n 42 2 rfl rfl ?_
            refine S.bipush (99 : Int32) 43 rfl (by decide) ?_
            refine S.icmp_gt 101 44 rfl (by decide) (fun _ => ?_) (fun _ => ?_)
            · refine S.sub (lv' := [(0, .ref 0), (3, .int (-1 : Int32))]) [0, 3] rfl ?_
              exact hj10 _ _
            · refine S.aload_n 45 0 rfl rfl ?_
              refine S.getR 46 rfl fo_X11_10 rfl rfl rfl ?_
              refine S.getI 47 rfl fo_X11_133 rfl rfl ?_
              refine S.nmi (fun x14 => ?_)
              refine S.istore_n [(3, .int x14), (0, .ref 0), (1, .int l1), (2, .int l2)] 48 rfl (by decide) rfl ?_
              refine S.aload_n 49 1 rfl rfl ?_
              refine S.getR 50 rfl fo_X11_10 rfl rfl rfl ?_
              refine S.iload_n 51 3 rfl rfl ?_
              refine S.putI 52 rfl fo_X11_133 rfl rfl rfl rfl (fun _ hq => by cases hq; exact Or.inl rfl) (fun I15 => ?_)
              refine S.sub (lv' := [(0, .ref 0), (3, .int x14)]) [1, 0] rfl ?_
              exact hj10 _ _
      · refine S.icmp_ne 70 21 rfl (by decide) (fun _ => ?_) (fun _ => ?_)
        · exact hj13
        · refine S.iload_n 22 2 rfl rfl ?_
          refine S.iconst (1 : Int32) 23 rfl (by decide) ?_
          refine S.icmp_lt 70 24 rfl (by decide) (fun _ => ?_) (fun _ => ?_)
          · exact hj13
          · refine S.iload_n 25 2 rfl rfl ?_
            refine S.iconst (3 : Int32) 26 rfl (by decide) ?_
            refine S.icmp_gt 70 27 rfl (by decide) (fun _ => ?_) (fun _ => ?_)
            · exact hj13
            · refine S.aload_n 28 0 rfl rfl ?_
              refine S.getR 29 rfl fo_X11_10 rfl rfl rfl ?_
              refine S.getI 30 rfl fo_X11_130 rfl rfl ?_
              refine S.nmi (fun x16 => ?_)
              refine S.istore_n [(3, .int x16), (0, .ref 0), (1, .int l1), (2, .int l2)] 31 rfl (by decide) rfl ?_
              refine S.aload_n 32 1 rfl rfl ?_
              refine S.getR 33 rfl fo_X11_10 rfl rfl rfl ?_
              refine S.iload_n 34 3 rfl rfl ?_
              refine S.putI 35 rfl fo_X11_130 rfl rfl rfl rfl (fun _ hq => by cases hq; exact Or.inl rfl) (fun I17 => ?_)
              refine S.goto 101 36 rfl (by decide) ?_
              refine S.sub (lv' := [(0, .ref 0), (3, .int x16)]) [1, 0] rfl ?_
              exact hj10 _ _
    · refine S.if_ne 36 3 rfl (by decide) (fun _ => ?_) (fun _ => ?_)
      · refine S.sub (lv' := [(0, .ref 0), (1, .int l1), (2, .int l2), (3, .int (-1 : Int32))]) [1, 2, 3, 0] rfl ?_
        exact hj12
      · refine S.iload_n 4 3 rfl rfl ?_
        refine S.iconst (1 : Int32) 5 rfl (by decide) ?_
        refine S.icmp_lt 36 6 rfl (by decide) (fun _ => ?_) (fun _ => ?_)
        · refine S.sub (lv' := [(0, .ref 0), (1, .int l1), (2, .int l2), (3, .int (-1 : Int32))]) [1, 2, 3, 0] rfl ?_
          exact hj12
        · refine S.iload_n 7 3 rfl rfl ?_
          refine S.bipush (20 : Int32) 8 rfl (by decide) ?_
          refine S.icmp_gt 36 9 rfl (by decide) (fun _ => ?_) (fun _ => ?_)
          · refine S.sub (lv' := [(0, .ref 0), (1, .int l1), (2, .int l2), (3, .int (-1 : Int32))]) [1, 2, 3, 0] rfl ?_
            exact hj12
          · refine S.aload_n 10 1 rfl rfl ?_
            refine S.getR 11 rfl fo_X11_10 rfl rfl rfl ?_
            refine S.getI 12 rfl fo_X11_127 rfl rfl ?_
            refine S.nmi (fun x18 => ?_)
            refine S.istore_n [(3, .int x18), (0, .ref 0), (1, .int l1), (2, .int l2)] 13 rfl (by decide) rfl ?_
            refine S.aload_n 14 1 rfl rfl ?_
            refine S.getR 15 rfl fo_X11_10 rfl rfl rfl ?_
            refine S.iload_n 16 3 rfl rfl ?_
            refine S.putI 17 rfl fo_X11_127 rfl rfl rfl rfl (fun _ hq => by cases hq; exact Or.inl rfl) (fun I19 => ?_)
            refine S.goto 101 18 rfl (by decide) ?_
            refine S.sub (lv' := [(0, .ref 0), (3, .int x18)]) [1, 0] rfl ?_
            exact hj10 _ _
def F_X11_ohms (l1 : Int32) (I : HI) (J : HJ) : Option Int32 :=
  cp (F_X0_hasWire l1 I J) fun r1 =>
  if r1 = 0 then
    some (-1 : Int32)
  else
    bx l1 10 <|
    some (I x_board_ohms (Int32.toNatClampNeg l1))
set_option maxRecDepth 100000 in
theorem cm_X11_ohms (b : Bool) (l1 : Int32) (I : HI) (J : HJ) : CM mX11_ohms 2 0 0 [.ref 0, .int l1] (zs b, I, J) (pI (zs b, I, J)) (F_X11_ohms l1 I J) := by
  refine S.of okX11_ohms pn_X11 (Nat.le_of_ble_eq_true rfl) ?_
  refine S.sub (lv' := [(0, .ref 0), (1, .int l1)]) [0, 1] rfl ?_
  unfold F_X11_ohms
  refine S.aload_n 0 0 rfl rfl ?_
  refine S.getR 1 rfl fo_X11_10 rfl rfl rfl ?_
  refine S.iload_n 2 1 rfl rfl ?_
  refine S.qVI (d := 1) (av := [.int l1]) (rs := [.int l1]) (b := 1) 3 rfl co_X11_152 rfl rfl rfl rfl rfl ⟨⟨Nat.le_of_ble_eq_true rfl, Nat.le_of_ble_eq_true rfl⟩, ⟨Nat.le_of_ble_eq_true rfl, Nat.le_of_ble_eq_true rfl⟩, Nat.le_of_ble_eq_true rfl⟩ (cm_X0_hasWire b l1 I J) (fun r1 => ?_)
  refine S.if_eq 23 4 rfl (by decide) (fun _ => ?_) (fun _ => ?_)
  · refine S.iconst (-1 : Int32) 11 rfl (by decide) ?_
    exact S.iret 12 rfl rfl rfl (Nat.le_refl _) (Nat.le_refl _) rfl
  · refine S.aload_n 5 0 rfl rfl ?_
    refine S.getR 6 rfl fo_X11_10 rfl rfl rfl ?_
    refine S.getR 7 rfl fo_X11_155 rfl rfl rfl ?_
    refine S.iload_n 8 1 rfl rfl ?_
    refine S.iald 9 rfl rfl ?_
    refine S.goto 24 10 rfl (by decide) ?_
    exact S.iret 12 rfl rfl rfl (Nat.le_refl _) (Nat.le_refl _) rfl
def F_X11_entryAs (l0 : Int32) (l1 : Int32) : Option Int32 :=
  if l0 = 0 then
    some (oi2b l1)
  else
    if l0 = (1 : Int32) then
      some (oi2s l1)
    else
      some l1
set_option maxRecDepth 100000 in
theorem cm_X11_entryAs (h : Hp) (l0 : Int32) (l1 : Int32) : CM mX11_entryAs 1 0 0 [.int l0, .int l1] h (pI h) (F_X11_entryAs l0 l1) := by
  refine S.of okX11_entryAs pn_X11 (Nat.le_of_ble_eq_true rfl) ?_
  refine S.sub (lv' := [(0, .int l0), (1, .int l1)]) [0, 1] rfl ?_
  unfold F_X11_entryAs
  refine S.iload_n 0 0 rfl rfl ?_
  refine S.if_ne 7 1 rfl (by decide) (fun _ => ?_) (fun _ => ?_)
  · refine S.iload_n 5 0 rfl rfl ?_
    refine S.iconst (1 : Int32) 6 rfl (by decide) ?_
    refine S.icmp_ne 17 7 rfl (by decide) (fun _ => ?_) (fun _ => ?_)
    · refine S.iload_n 11 1 rfl rfl ?_
      exact S.iret 12 rfl rfl rfl (Nat.le_refl _) (Nat.le_refl _) rfl
    · refine S.iload_n 8 1 rfl rfl ?_
      refine S.i2s 9 rfl ?_
      refine S.goto 18 10 rfl (by decide) ?_
      exact S.iret 12 rfl rfl rfl (Nat.le_refl _) (Nat.le_refl _) rfl
  · refine S.iload_n 2 1 rfl rfl ?_
    refine S.i2b 3 rfl ?_
    exact S.iret 4 rfl rfl rfl (Nat.le_refl _) (Nat.le_refl _) rfl
def F_X11_sheet_L47 (l1 : Int32) (l3 : Int32) (l4 : Int32) (l5 : Int32) (J : HJ) (kx125 : Int32 → HI → Option (Int32 × HI × HJ)) : Nat → Int32 → Int32 → HI → Option (Int32 × HI × HJ)
  | 0, _, _, _ => none
  | K+1, l6, l7, I =>
    if (I x_board f_Board_lamps) ≤ l7 then
      kx125 l6 I
    else
      lb (fun (y7 : Int32) =>
      bx l7 64 <|
      lb (ui I x_board_volts (Int32.toNatClampNeg l7) (omax (1 : Int32) (omin (9 : Int32) y7))) fun I9 =>
      bx l7 64 <|
      lb ((l6 + (I9 x_board_volts (Int32.toNatClampNeg l7)))) fun x10 =>
      F_X11_sheet_L47 l1 l3 l4 l5 J kx125 K x10 (l7 + 1) I9) fun j8 =>
      if l5 ≤ l7 then
        j8 (1 : Int32)
      else
        cp (F_X11_entryAs l1 (l3 + (l7 * l4))) fun r11 =>
        j8 r11
set_option maxRecDepth 100000 in
theorem s_X11_sheet_L47 (b : Bool) (l1 : Int32) (l3 : Int32) (l4 : Int32) (l5 : Int32) (J : HJ) (kx125 : Int32 → HI → Option (Int32 × HI × HJ)) (hkx125 : ∀ (y6 : Int32) (I1 : HI), S (fI (zs b)) mX11_sheet (rmd 2 0 0) 0 0 (0, 0) 125 [(0, .ref 0), (1, .int l1), (6, .int y6)] [] (zs b, I1, J) (kx125 y6 I1)) : ∀ (K : Nat) (l6 : Int32) (l7 : Int32) (I : HI), S (fI (zs b)) mX11_sheet (rmd 2 0 0) 0 0 (0, 0) 47 [(0, .ref 0), (1, .int l1), (3, .int l3), (4, .int l4), (5, .int l5), (6, .int l6), (7, .int l7)] [] (zs b, I, J) (F_X11_sheet_L47 l1 l3 l4 l5 J kx125 K l6 l7 I) := by
  intro K
  induction K with
  | zero => intro l6 l7 I; exact S.none
  | succ K ih =>
    intro l6 l7 I
    rw [F_X11_sheet_L47]
    refine S.iload 28 6 rfl rfl ?_
    refine S.aload_n 29 0 rfl rfl ?_
    refine S.getR 30 rfl fo_X11_10 rfl rfl rfl ?_
    refine S.getI 31 rfl fo_X11_109 rfl rfl ?_
    refine S.icmp_ge 125 32 rfl (by decide) (fun _ => ?_) (fun _ => ?_)
    · refine S.sub (lv' := [(0, .ref 0), (1, .int l1), (6, .int l6)]) [0, 1, 5] rfl ?_
      exact hkx125 _ _
    · refine S.iload 33 6 rfl rfl ?_
      refine S.iload 34 4 rfl rfl ?_
      refine S.jn (fun j => ∀ (y7 : Int32), S (fI (zs b)) mX11_sheet (rmd 2 0 0) 0 0 (0, 0) 81 [(0, .ref 0), (1, .int l1), (3, .int l3), (4, .int l4), (5, .int l5), (6, .int l6), (7, .int l7)] [.int y7] (zs b, I, J) (j y7)) (fun y7 => ?_) (fun j8 hj8 => ?_)
      · refine S.istore [(8, .int y7), (0, .ref 0), (1, .int l1), (3, .int l3), (4, .int l4), (5, .int l5), (6, .int l6), (7, .int l7)] 45 rfl (by decide) rfl ?_
        refine S.aload_n 46 1 rfl rfl ?_
        refine S.getR 47 rfl fo_X11_10 rfl rfl rfl ?_
        refine S.getR 48 rfl fo_X11_149 rfl rfl rfl ?_
        refine S.iload 49 7 rfl rfl ?_
        refine S.iconst (1 : Int32) 50 rfl (by decide) ?_
        refine S.bipush (9 : Int32) 51 rfl (by decide) ?_
        refine S.iload 52 0 rfl rfl ?_
        refine S.mmin 53 rfl co_X11_161 ⟨Nat.le_of_ble_eq_true rfl, Nat.le_of_ble_eq_true rfl, Nat.le_of_ble_eq_true rfl, Nat.le_of_ble_eq_true rfl, Nat.le_of_ble_eq_true rfl⟩ ?_
        refine S.mmax 54 rfl co_X11_166 ⟨Nat.le_of_ble_eq_true rfl, Nat.le_of_ble_eq_true rfl, Nat.le_of_ble_eq_true rfl, Nat.le_of_ble_eq_true rfl, Nat.le_of_ble_eq_true rfl⟩ ?_
        refine S.iast 55 rfl rfl (fun I9 => ?_)
        refine S.iload 56 6 rfl rfl ?_
        refine S.aload_n 57 1 rfl rfl ?_
        refine S.getR 58 rfl fo_X11_10 rfl rfl rfl ?_
        refine S.getR 59 rfl fo_X11_149 rfl rfl rfl ?_
        refine S.iload 60 7 rfl rfl ?_
        refine S.iald 61 rfl rfl ?_
        refine S.iadd 62 rfl ?_
        refine S.nmi (fun x10 => ?_)
        refine S.istore [(6, .int x10), (8, .int y7), (0, .ref 0), (1, .int l1), (3, .int l3), (4, .int l4), (5, .int l5), (7, .int l7)] 63 rfl (by decide) rfl ?_
        refine S.iinc (l7 + 1) [(7, .int (l7 + 1)), (6, .int x10), (8, .int y7), (0, .ref 0), (1, .int l1), (3, .int l3), (4, .int l4), (5, .int l5)] 64 7 rfl rfl rfl (by decide) rfl ?_
        refine S.goto 47 65 rfl (by decide) ?_
        refine S.sub (lv' := [(0, .ref 0), (1, .int l1), (3, .int l3), (4, .int l4), (5, .int l5), (6, .int x10), (7, .int (l7 + 1))]) [3, 4, 5, 6, 7, 1, 0] rfl ?_
        exact ih _ _ _
      · refine S.icmp_ge 80 35 rfl (by decide) (fun _ => ?_) (fun _ => ?_)
        · refine S.iconst (1 : Int32) 44 rfl (by decide) ?_
          exact hj8 _
        · refine S.iload_n 36 1 rfl rfl ?_
          refine S.iload_n 37 2 rfl rfl ?_
          refine S.iload 38 6 rfl rfl ?_
          refine S.iload 39 3 rfl rfl ?_
          refine S.imul 40 rfl ?_
          refine S.iadd 41 rfl ?_
          refine S.qSI (d := 1) (av := [.int l1, .int (l3 + (l7 * l4))]) (rs := [.int (l3 + (l7 * l4)), .int l1]) 42 rfl co_X11_158 rfl rfl ⟨⟨Nat.le_of_ble_eq_true rfl, Nat.le_of_ble_eq_true rfl⟩, ⟨Nat.le_of_ble_eq_true rfl, Nat.le_of_ble_eq_true rfl⟩, Nat.le_of_ble_eq_true rfl⟩ (cm_X11_entryAs (zs b, I, J) l1 (l3 + (l7 * l4))) (fun r11 => ?_)
          refine S.goto 81 43 rfl (by decide) ?_
          exact hj8 _
def F_X11_sheet (l1 : Int32) (l2 : Int32) (l3 : Int32) (l4 : Int32) (I : HI) (J : HJ) : Option (Int32 × HI × HJ) :=
  if l1 < 0 then
    some ((-1 : Int32), I, J)
  else
    if (3 : Int32) < l1 then
      some ((-1 : Int32), I, J)
    else
      if l2 ≤ (60 : Int32) then
        lb (
        lb (fun (y5 : Int32) =>
        F_X11_sheet_L47 l1 l3 l4 y5 J (fun (y12 : Int32) (I13 : HI) =>
        lb (ui I13 x_table f_Table_fresh (0 : Int32)) fun I14 =>
        if l1 = (3 : Int32) then
          some ((-3 : Int32), I14, J)
        else
          some (y12, I14, J)) bgf (0 : Int32) (0 : Int32) I) fun j6 =>
        if l1 = (3 : Int32) then
          j6 (0 : Int32)
        else
          j6 l2) fun j4 =>
        if l1 = (3 : Int32) then
          j4
        else
          if 0 ≤ l2 then
            j4
          else
            some ((-2 : Int32), I, J)
      else
        some ((-1 : Int32), I, J)
set_option maxRecDepth 100000 in
theorem cm_X11_sheet (b : Bool) (l1 : Int32) (l2 : Int32) (l3 : Int32) (l4 : Int32) (I : HI) (J : HJ) : CM mX11_sheet 2 0 0 [.ref 0, .int l1, .int l2, .int l3, .int l4] (zs b, I, J) (fI (zs b)) (F_X11_sheet l1 l2 l3 l4 I J) := by
  refine S.of okX11_sheet pn_X11 (Nat.le_of_ble_eq_true rfl) ?_
  refine S.sub (lv' := [(0, .ref 0), (1, .int l1), (2, .int l2), (3, .int l3), (4, .int l4)]) [0, 1, 2, 3, 4] rfl ?_
  unfold F_X11_sheet
  refine S.iload_n 0 1 rfl rfl ?_
  refine S.if_lt 15 1 rfl (by decide) (fun _ => ?_) (fun _ => ?_)
  · refine S.iconst (-1 : Int32) 8 rfl (by decide) ?_
    exact S.iret 9 rfl rfl rfl (Nat.le_refl _) (Nat.le_refl _) rfl
  · refine S.iload_n 2 1 rfl rfl ?_
    refine S.iconst (3 : Int32) 3 rfl (by decide) ?_
    refine S.icmp_gt 15 4 rfl (by decide) (fun _ => ?_) (fun _ => ?_)
    · refine S.iconst (-1 : Int32) 8 rfl (by decide) ?_
      exact S.iret 9 rfl rfl rfl (Nat.le_refl _) (Nat.le_refl _) rfl
    · refine S.iload_n 5 2 rfl rfl ?_
      refine S.bipush (60 : Int32) 6 rfl (by decide) ?_
      refine S.icmp_le 17 7 rfl (by decide) (fun _ => ?_) (fun _ => ?_)
      · refine S.iload_n 10 1 rfl rfl ?_
        refine S.iconst (3 : Int32) 11 rfl (by decide) ?_
        refine S.jn (fun j => S (fI (zs b)) mX11_sheet (rmd 2 0 0) 0 0 (0, 0) 29 [(0, .ref 0), (1, .int l1), (2, .int l2), (3, .int l3), (4, .int l4)] [] (zs b, I, J) (j)) ?_ (fun j4 hj4 => ?_)
        · refine S.iload_n 17 1 rfl rfl ?_
          refine S.iconst (3 : Int32) 18 rfl (by decide) ?_
          refine S.jn (fun j => ∀ (y5 : Int32), S (fI (zs b)) mX11_sheet (rmd 2 0 0) 0 0 (0, 0) 39 [(0, .ref 0), (1, .int l1), (3, .int l3), (4, .int l4)] [.int y5] (zs b, I, J) (j y5)) (fun y5 => ?_) (fun j6 hj6 => ?_)
          · refine S.istore [(5, .int y5), (0, .ref 0), (1, .int l1), (3, .int l3), (4, .int l4)] 23 rfl (by decide) rfl ?_
            refine S.iconst (0 : Int32) 24 rfl (by decide) ?_
            refine S.istore [(6, .int (0 : Int32)), (5, .int y5), (0, .ref 0), (1, .int l1), (3, .int l3), (4, .int l4)] 25 rfl (by decide) rfl ?_
            refine S.iconst (0 : Int32) 26 rfl (by decide) ?_
            refine S.istore [(7, .int (0 : Int32)), (6, .int (0 : Int32)), (5, .int y5), (0, .ref 0), (1, .int l1), (3, .int l3), (4, .int l4)] 27 rfl (by decide) rfl ?_
            refine S.sub (lv' := [(0, .ref 0), (1, .int l1), (3, .int l3), (4, .int l4), (5, .int y5), (6, .int (0 : Int32)), (7, .int (0 : Int32))]) [3, 4, 5, 6, 2, 1, 0] rfl ?_
            refine s_X11_sheet_L47 b _ _ _ _ _ _ (fun y12 I13 => ?_) bgf _ _ _
            refine S.aload_n 66 0 rfl rfl ?_
            refine S.getR 67 rfl fo_X11_60 rfl rfl rfl ?_
            refine S.iconst (0 : Int32) 68 rfl (by decide) ?_
            refine S.putI 69 rfl fo_X11_123 rfl rfl (by decide) (by decide) (fun _ hq => by cases hq; exact Or.inl rfl) (fun I14 => ?_)
            refine S.iload_n 70 1 rfl rfl ?_
            refine S.iconst (3 : Int32) 71 rfl (by decide) ?_
            refine S.icmp_ne 143 72 rfl (by decide) (fun _ => ?_) (fun _ => ?_)
            · refine S.iload 75 2 rfl rfl ?_
              exact S.iret 76 rfl rfl rfl (Nat.le_refl _) (Nat.le_refl _) rfl
            · refine S.bipush (-3 : Int32) 73 rfl (by decide) ?_
              refine S.goto 145 74 rfl (by decide) ?_
              exact S.iret 76 rfl rfl rfl (Nat.le_refl _) (Nat.le_refl _) rfl
          · refine S.icmp_ne 38 19 rfl (by decide) (fun _ => ?_) (fun _ => ?_)
            · refine S.iload_n 22 2 rfl rfl ?_
              refine S.sub (lv' := [(0, .ref 0), (1, .int l1), (3, .int l3), (4, .int l4)]) [0, 1, 3, 4] rfl ?_
              exact hj6 _
            · refine S.iconst (0 : Int32) 20 rfl (by decide) ?_
              refine S.goto 39 21 rfl (by decide) ?_
              refine S.sub (lv' := [(0, .ref 0), (1, .int l1), (3, .int l3), (4, .int l4)]) [0, 1, 3, 4] rfl ?_
              exact hj6 _
        · refine S.icmp_eq 29 12 rfl (by decide) (fun _ => ?_) (fun _ => ?_)
          · exact hj4
          · refine S.iload_n 13 2 rfl rfl ?_
            refine S.if_ge 29 14 rfl (by decide) (fun _ => ?_) (fun _ => ?_)
            · exact hj4
            · refine S.bipush (-2 : Int32) 15 rfl (by decide) ?_
              exact S.iret 16 rfl rfl rfl (Nat.le_refl _) (Nat.le_refl _) rfl
      · refine S.iconst (-1 : Int32) 8 rfl (by decide) ?_
        exact S.iret 9 rfl rfl rfl (Nat.le_refl _) (Nat.le_refl _) rfl
def F_X11_swap (l1 : Int32) (l2 : Int32) (I : HI) (J : HJ) : Option (Int32 × HI × HJ) :=
  cp (F_X0_hasPair l1 l2 I J) fun r2 =>
  if r2 = 0 then
    some ((0 : Int32), I, J)
  else
    cl (F_X0_trade l1 l2 I J) fun _ I3 J4 =>
    lb (ui I3 x_table f_Table_fresh (0 : Int32)) fun I5 =>
    some ((1 : Int32), I5, J4)
set_option maxRecDepth 100000 in
theorem cm_X11_swap (b : Bool) (l1 : Int32) (l2 : Int32) (I : HI) (J : HJ) : CM mX11_swap 4 0 0 [.ref 0, .int l1, .int l2] (zs b, I, J) (fI (zs b)) (F_X11_swap l1 l2 I J) := by
  refine S.of okX11_swap pn_X11 (Nat.le_of_ble_eq_true rfl) ?_
  refine S.sub (lv' := [(0, .ref 0), (1, .int l1), (2, .int l2)]) [0, 1, 2] rfl ?_
  unfold F_X11_swap
  refine S.aload_n 0 0 rfl rfl ?_
  refine S.getR 1 rfl fo_X11_10 rfl rfl rfl ?_
  refine S.iload_n 2 1 rfl rfl ?_
  refine S.iload_n 3 2 rfl rfl ?_
  refine S.qVI (d := 2) (av := [.int l1, .int l2]) (rs := [.int l2, .int l1]) (b := 1) 4 rfl co_X11_169 rfl rfl rfl rfl rfl ⟨⟨Nat.le_of_ble_eq_true rfl, Nat.le_of_ble_eq_true rfl⟩, ⟨Nat.le_of_ble_eq_true rfl, Nat.le_of_ble_eq_true rfl⟩, Nat.le_of_ble_eq_true rfl⟩ (cm_X0_hasPair b l1 l2 I J) (fun r2 => ?_)
  refine S.if_ne 14 5 rfl (by decide) (fun _ => ?_) (fun _ => ?_)
  · refine S.aload_n 8 0 rfl rfl ?_
    refine S.getR 9 rfl fo_X11_10 rfl rfl rfl ?_
    refine S.iload_n 10 1 rfl rfl ?_
    refine S.iload_n 11 2 rfl rfl ?_
    refine S.cVV (d := 3) (av := [.int l1, .int l2]) (rs := [.int l2, .int l1]) (b := 1) 12 rfl co_X11_173 rfl rfl rfl rfl rfl ⟨⟨Nat.le_of_ble_eq_true rfl, Nat.le_of_ble_eq_true rfl⟩, ⟨Nat.le_of_ble_eq_true rfl, Nat.le_of_ble_eq_true rfl⟩, Nat.le_of_ble_eq_true rfl⟩ (cm_X0_trade b l1 l2 I J) (fun _ I3 J4 => ?_)
    refine S.aload_n 13 0 rfl rfl ?_
    refine S.getR 14 rfl fo_X11_60 rfl rfl rfl ?_
    refine S.iconst (0 : Int32) 15 rfl (by decide) ?_
    refine S.putI 16 rfl fo_X11_123 rfl rfl (by decide) (by decide) (fun _ hq => by cases hq; exact Or.inl rfl) (fun I5 => ?_)
    refine S.iconst (1 : Int32) 17 rfl (by decide) ?_
    exact S.iret 18 rfl rfl rfl (Nat.le_refl _) (Nat.le_refl _) rfl
  · refine S.iconst (0 : Int32) 6 rfl (by decide) ?_
    exact S.iret 7 rfl rfl rfl (Nat.le_refl _) (Nat.le_refl _) rfl
def F_X11_put (l1 : Int32) (l2 : Int32) (I : HI) (J : HJ) : Option (Int32 × HI × HJ) :=
  cp (F_X0_hasSetting l1 l2 I J) fun r3 =>
  if r3 = 0 then
    some ((-1 : Int32), I, J)
  else
    lb (ui I x_notes f_Notes_high l1) fun I4 =>
    lb (ui I4 x_notes f_Notes_low l2) fun I5 =>
    cl (F_X1_glowing l1 l2 I5 J) fun r6 I7 J8 =>
    cp (F_J13_bitCount_95d88 r6) fun r9 =>
    some (r9, I7, J8)
set_option maxRecDepth 100000 in
theorem cm_X11_put (b : Bool) (l1 : Int32) (l2 : Int32) (I : HI) (J : HJ) : CM mX11_put 25 0 0 [.ref 0, .int l1, .int l2] (zs b, I, J) (fI (zs b)) (F_X11_put l1 l2 I J) := by
  refine S.of okX11_put pn_X11 (Nat.le_of_ble_eq_true rfl) ?_
  refine S.sub (lv' := [(0, .ref 0), (1, .int l1), (2, .int l2)]) [0, 1, 2] rfl ?_
  unfold F_X11_put
  refine S.aload_n 0 0 rfl rfl ?_
  refine S.getR 1 rfl fo_X11_10 rfl rfl rfl ?_
  refine S.iload_n 2 1 rfl rfl ?_
  refine S.iload_n 3 2 rfl rfl ?_
  refine S.qVI (d := 1) (av := [.int l1, .int l2]) (rs := [.int l2, .int l1]) (b := 1) 4 rfl co_X11_177 rfl rfl rfl rfl rfl ⟨⟨Nat.le_of_ble_eq_true rfl, Nat.le_of_ble_eq_true rfl⟩, ⟨Nat.le_of_ble_eq_true rfl, Nat.le_of_ble_eq_true rfl⟩, Nat.le_of_ble_eq_true rfl⟩ (cm_X0_hasSetting b l1 l2 I J) (fun r3 => ?_)
  refine S.if_ne 14 5 rfl (by decide) (fun _ => ?_) (fun _ => ?_)
  · refine S.aload_n 8 0 rfl rfl ?_
    refine S.getR 9 rfl fo_X11_51 rfl rfl rfl ?_
    refine S.iload_n 10 1 rfl rfl ?_
    refine S.putI 11 rfl fo_X11_180 rfl rfl rfl rfl (fun _ hq => by cases hq; exact Or.inl rfl) (fun I4 => ?_)
    refine S.aload_n 12 0 rfl rfl ?_
    refine S.getR 13 rfl fo_X11_51 rfl rfl rfl ?_
    refine S.iload_n 14 2 rfl rfl ?_
    refine S.putI 15 rfl fo_X11_183 rfl rfl rfl rfl (fun _ hq => by cases hq; exact Or.inl rfl) (fun I5 => ?_)
    refine S.aload_n 16 0 rfl rfl ?_
    refine S.getR 17 rfl fo_X11_44 rfl rfl rfl ?_
    refine S.iload_n 18 1 rfl rfl ?_
    refine S.iload_n 19 2 rfl rfl ?_
    refine S.cVL (d := 24) (av := [.int l1, .int l2]) (rs := [.int l2, .int l1]) (b := 17) 20 rfl co_X11_186 rfl rfl rfl rfl rfl ⟨⟨Nat.le_of_ble_eq_true rfl, Nat.le_of_ble_eq_true rfl⟩, ⟨Nat.le_of_ble_eq_true rfl, Nat.le_of_ble_eq_true rfl⟩, Nat.le_of_ble_eq_true rfl⟩ (cm_X1_glowing b l1 l2 I5 J) (fun r6 I7 J8 => ?_)
    refine S.qSI (d := 1) (av := [.long r6]) (rs := [.long r6]) 21 rfl co_X11_190 rfl rfl ⟨⟨Nat.le_of_ble_eq_true rfl, Nat.le_of_ble_eq_true rfl⟩, ⟨Nat.le_of_ble_eq_true rfl, Nat.le_of_ble_eq_true rfl⟩, Nat.le_of_ble_eq_true rfl⟩ (cm_J13_bitCount_95d88 (zs b, I7, J8) r6) (fun r9 => ?_)
    exact S.iret 22 rfl rfl rfl (Nat.le_refl _) (Nat.le_refl _) rfl
  · refine S.iconst (-1 : Int32) 6 rfl (by decide) ?_
    exact S.iret 7 rfl rfl rfl (Nat.le_refl _) (Nat.le_refl _) rfl
def F_X11_glows  (I : HI) (J : HJ) : Option (Int64 × HI × HJ) :=
  cl (F_X1_glowing (I x_notes f_Notes_high) (I x_notes f_Notes_low) I J) fun r1 I2 J3 =>
  some (r1, I2, J3)
set_option maxRecDepth 100000 in
theorem cm_X11_glows (b : Bool)  (I : HI) (J : HJ) : CM mX11_glows 25 0 0 [.ref 0] (zs b, I, J) (fL (zs b)) (F_X11_glows  I J) := by
  refine S.of okX11_glows pn_X11 (Nat.le_of_ble_eq_true rfl) ?_
  refine S.sub (lv' := [(0, .ref 0)]) [0] rfl ?_
  unfold F_X11_glows
  refine S.aload_n 0 0 rfl rfl ?_
  refine S.getR 1 rfl fo_X11_44 rfl rfl rfl ?_
  refine S.aload_n 2 0 rfl rfl ?_
  refine S.getR 3 rfl fo_X11_51 rfl rfl rfl ?_
  refine S.getI 4 rfl fo_X11_180 rfl rfl ?_
  refine S.aload_n 5 0 rfl rfl ?_
  refine S.getR 6 rfl fo_X11_51 rfl rfl rfl ?_
  refine S.getI 7 rfl fo_X11_183 rfl rfl ?_
  refine S.cVL (d := 24) (av := [.int (I x_notes f_Notes_high), .int (I x_notes f_Notes_low)]) (rs := [.int (I x_notes f_Notes_low), .int (I x_notes f_Notes_high)]) (b := 17) 8 rfl co_X11_186 rfl rfl rfl rfl rfl ⟨⟨Nat.le_of_ble_eq_true rfl, Nat.le_of_ble_eq_true rfl⟩, ⟨Nat.le_of_ble_eq_true rfl, Nat.le_of_ble_eq_true rfl⟩, Nat.le_of_ble_eq_true rfl⟩ (cm_X1_glowing b (I x_notes f_Notes_high) (I x_notes f_Notes_low) I J) (fun r1 I2 J3 => ?_)
  exact S.lret 9 rfl rfl (Nat.le_refl _) (Nat.le_refl _) rfl
def F_X11_ghosts  (I : HI) (J : HJ) : Option (Int64 × HI × HJ) :=
  cl (F_X1_glowing (I x_notes f_Notes_high) (I x_notes f_Notes_low) I J) fun r1 I2 J3 =>
  cp (F_X0_asked (I2 x_notes f_Notes_high) (I2 x_notes f_Notes_low) I2 J3) fun r4 =>
  some ((r1 &&& (r4 ^^^ (-1 : Int64))), I2, J3)
set_option maxRecDepth 100000 in
theorem cm_X11_ghosts (b : Bool)  (I : HI) (J : HJ) : CM mX11_ghosts 25 0 0 [.ref 0] (zs b, I, J) (fL (zs b)) (F_X11_ghosts  I J) := by
  refine S.of okX11_ghosts pn_X11 (Nat.le_of_ble_eq_true rfl) ?_
  refine S.sub (lv' := [(0, .ref 0)]) [0] rfl ?_
  unfold F_X11_ghosts
  refine S.aload_n 0 0 rfl rfl ?_
  refine S.getR 1 rfl fo_X11_44 rfl rfl rfl ?_
  refine S.aload_n 2 0 rfl rfl ?_
  refine S.getR 3 rfl fo_X11_51 rfl rfl rfl ?_
  refine S.getI 4 rfl fo_X11_180 rfl rfl ?_
  refine S.aload_n 5 0 rfl rfl ?_
  refine S.getR 6 rfl fo_X11_51 rfl rfl rfl ?_
  refine S.getI 7 rfl fo_X11_183 rfl rfl ?_
  refine S.cVL (d := 24) (av := [.int (I x_notes f_Notes_high), .int (I x_notes f_Notes_low)]) (rs := [.int (I x_notes f_Notes_low), .int (I x_notes f_Notes_high)]) (b := 17) 8 rfl co_X11_186 rfl rfl rfl rfl rfl ⟨⟨Nat.le_of_ble_eq_true rfl, Nat.le_of_ble_eq_true rfl⟩, ⟨Nat.le_of_ble_eq_true rfl, Nat.le_of_ble_eq_true rfl⟩, Nat.le_of_ble_eq_true rfl⟩ (cm_X1_glowing b (I x_notes f_Notes_high) (I x_notes f_Notes_low) I J) (fun r1 I2 J3 => ?_)
  refine S.lstore_n [(1, .long r1), (0, .ref 0)] 9 rfl (by decide) rfl ?_
  refine S.lload_n 10 0 rfl rfl ?_
  refine S.aload_n 11 1 rfl rfl ?_
  refine S.getR 12 rfl fo_X11_10 rfl rfl rfl ?_
  refine S.aload_n 13 1 rfl rfl ?_
  refine S.getR 14 rfl fo_X11_51 rfl rfl rfl ?_
  refine S.getI 15 rfl fo_X11_180 rfl rfl ?_
  refine S.aload_n 16 1 rfl rfl ?_
  refine S.getR 17 rfl fo_X11_51 rfl rfl rfl ?_
  refine S.getI 18 rfl fo_X11_183 rfl rfl ?_
  refine S.qVL (d := 1) (av := [.int (I2 x_notes f_Notes_high), .int (I2 x_notes f_Notes_low)]) (rs := [.int (I2 x_notes f_Notes_low), .int (I2 x_notes f_Notes_high)]) (b := 1) 19 rfl co_X11_196 rfl rfl rfl rfl rfl ⟨⟨Nat.le_of_ble_eq_true rfl, Nat.le_of_ble_eq_true rfl⟩, ⟨Nat.le_of_ble_eq_true rfl, Nat.le_of_ble_eq_true rfl⟩, Nat.le_of_ble_eq_true rfl⟩ (cm_X0_asked b (I2 x_notes f_Notes_high) (I2 x_notes f_Notes_low) I2 J3) (fun r4 => ?_)
  refine S.ldc2 (-1 : Int64) 20 rfl ko_X11_199 ?_
  refine S.lxor 21 rfl ?_
  refine S.land 22 rfl ?_
  exact S.lret 23 rfl rfl (Nat.le_refl _) (Nat.le_refl _) rfl
def F_X11_light (l1 : Int32) (I : HI) (J : HJ) : Option (Int64 × HI × HJ) :=
  cp (F_X0_hasLamp l1 I J) fun r1 =>
  if r1 = 0 then
    some ((-1 : Int64), I, J)
  else
    cl (F_X1_watch l1 (I x_notes f_Notes_high) (I x_notes f_Notes_low) I J) fun _ I2 J3 =>
    cl (F_X10_clear I2 J3) fun _ I4 J5 =>
    cl (F_X10_add (Int32.toInt64 (I4 x_flow f_Flow_passing)) I4 J5) fun _ I6 J7 =>
    cl (F_X10_add (J7 x_flow f_Flow_best) I6 J7) fun _ I8 J9 =>
    bx l1 64 <|
    some ((J9 x_flow_light (Int32.toNatClampNeg l1)), I8, J9)
set_option maxRecDepth 100000 in
theorem cm_X11_light (b : Bool) (l1 : Int32) (I : HI) (J : HJ) : CM mX11_light 25 0 0 [.ref 0, .int l1] (zs b, I, J) (fL (zs b)) (F_X11_light l1 I J) := by
  refine S.of okX11_light pn_X11 (Nat.le_of_ble_eq_true rfl) ?_
  refine S.sub (lv' := [(0, .ref 0), (1, .int l1)]) [0, 1] rfl ?_
  unfold F_X11_light
  refine S.aload_n 0 0 rfl rfl ?_
  refine S.getR 1 rfl fo_X11_10 rfl rfl rfl ?_
  refine S.iload_n 2 1 rfl rfl ?_
  refine S.qVI (d := 1) (av := [.int l1]) (rs := [.int l1]) (b := 1) 3 rfl co_X11_136 rfl rfl rfl rfl rfl ⟨⟨Nat.le_of_ble_eq_true rfl, Nat.le_of_ble_eq_true rfl⟩, ⟨Nat.le_of_ble_eq_true rfl, Nat.le_of_ble_eq_true rfl⟩, Nat.le_of_ble_eq_true rfl⟩ (cm_X0_hasLamp b l1 I J) (fun r1 => ?_)
  refine S.if_ne 15 4 rfl (by decide) (fun _ => ?_) (fun _ => ?_)
  · refine S.aload_n 7 0 rfl rfl ?_
    refine S.getR 8 rfl fo_X11_44 rfl rfl rfl ?_
    refine S.iload_n 9 1 rfl rfl ?_
    refine S.aload_n 10 0 rfl rfl ?_
    refine S.getR 11 rfl fo_X11_51 rfl rfl rfl ?_
    refine S.getI 12 rfl fo_X11_180 rfl rfl ?_
    refine S.aload_n 13 0 rfl rfl ?_
    refine S.getR 14 rfl fo_X11_51 rfl rfl rfl ?_
    refine S.getI 15 rfl fo_X11_183 rfl rfl ?_
    refine S.cVV (d := 24) (av := [.int l1, .int (I x_notes f_Notes_high), .int (I x_notes f_Notes_low)]) (rs := [.int (I x_notes f_Notes_low), .int (I x_notes f_Notes_high), .int l1]) (b := 17) 16 rfl co_X11_201 rfl rfl rfl rfl rfl ⟨⟨Nat.le_of_ble_eq_true rfl, Nat.le_of_ble_eq_true rfl⟩, ⟨Nat.le_of_ble_eq_true rfl, Nat.le_of_ble_eq_true rfl⟩, Nat.le_of_ble_eq_true rfl⟩ (cm_X1_watch b l1 (I x_notes f_Notes_high) (I x_notes f_Notes_low) I J) (fun _ I2 J3 => ?_)
    refine S.aload_n 17 0 rfl rfl ?_
    refine S.getR 18 rfl fo_X11_35 rfl rfl rfl ?_
    refine S.cVV (d := 1) (av := []) (rs := []) (b := 15) 19 rfl co_X11_205 rfl rfl rfl rfl rfl ⟨⟨Nat.le_of_ble_eq_true rfl, Nat.le_of_ble_eq_true rfl⟩, ⟨Nat.le_of_ble_eq_true rfl, Nat.le_of_ble_eq_true rfl⟩, Nat.le_of_ble_eq_true rfl⟩ (cm_X10_clear b I2 J3) (fun _ I4 J5 => ?_)
    refine S.aload_n 20 0 rfl rfl ?_
    refine S.getR 21 rfl fo_X11_35 rfl rfl rfl ?_
    refine S.aload_n 22 0 rfl rfl ?_
    refine S.getR 23 rfl fo_X11_44 rfl rfl rfl ?_
    refine S.getI 24 rfl fo_X11_208 rfl rfl ?_
    refine S.i2l 25 rfl ?_
    refine S.cVV (d := 1) (av := [.long (Int32.toInt64 (I4 x_flow f_Flow_passing))]) (rs := [.long (Int32.toInt64 (I4 x_flow f_Flow_passing))]) (b := 15) 26 rfl co_X11_211 rfl rfl rfl rfl rfl ⟨⟨Nat.le_of_ble_eq_true rfl, Nat.le_of_ble_eq_true rfl⟩, ⟨Nat.le_of_ble_eq_true rfl, Nat.le_of_ble_eq_true rfl⟩, Nat.le_of_ble_eq_true rfl⟩ (cm_X10_add b (Int32.toInt64 (I4 x_flow f_Flow_passing)) I4 J5) (fun _ I6 J7 => ?_)
    refine S.aload_n 27 0 rfl rfl ?_
    refine S.getR 28 rfl fo_X11_35 rfl rfl rfl ?_
    refine S.aload_n 29 0 rfl rfl ?_
    refine S.getR 30 rfl fo_X11_44 rfl rfl rfl ?_
    refine S.getJ 31 rfl fo_X11_215 rfl rfl ?_
    refine S.cVV (d := 1) (av := [.long (J7 x_flow f_Flow_best)]) (rs := [.long (J7 x_flow f_Flow_best)]) (b := 15) 32 rfl co_X11_211 rfl rfl rfl rfl rfl ⟨⟨Nat.le_of_ble_eq_true rfl, Nat.le_of_ble_eq_true rfl⟩, ⟨Nat.le_of_ble_eq_true rfl, Nat.le_of_ble_eq_true rfl⟩, Nat.le_of_ble_eq_true rfl⟩ (cm_X10_add b (J7 x_flow f_Flow_best) I6 J7) (fun _ I8 J9 => ?_)
    refine S.aload_n 33 0 rfl rfl ?_
    refine S.getR 34 rfl fo_X11_44 rfl rfl rfl ?_
    refine S.getR 35 rfl fo_X11_219 rfl rfl rfl ?_
    refine S.iload_n 36 1 rfl rfl ?_
    refine S.lald 37 rfl rfl ?_
    exact S.lret 38 rfl rfl (Nat.le_refl _) (Nat.le_refl _) rfl
  · refine S.ldc2 (-1 : Int64) 5 rfl ko_X11_199 ?_
    exact S.lret 6 rfl rfl (Nat.le_refl _) (Nat.le_refl _) rfl
def F_X11_why_L60 (kx94 : HI → HJ → Option (Int64 × HI × HJ)) : Nat → Int32 → HI → HJ → Option (Int64 × HI × HJ)
  | 0, _, _, _ => none
  | K+1, l2, I, J =>
    if (I x_flow f_Flow_bestSize) ≤ l2 then
      kx94 I J
    else
      bx l2 3 <|
      cl (F_X10_add (Int32.toInt64 (I x_flow_bestWay (Int32.toNatClampNeg l2))) I J) fun _ I6 J7 =>
      F_X11_why_L60 kx94 K (l2 + 1) I6 J7
set_option maxRecDepth 100000 in
theorem s_X11_why_L60 (b : Bool) (kx94 : HI → HJ → Option (Int64 × HI × HJ)) (hkx94 : ∀ (I1 : HI) (J1 : HJ), S (fL (zs b)) mX11_why (rmd 25 0 0) 0 0 (0, 0) 94 [(0, .ref 0)] [] (zs b, I1, J1) (kx94 I1 J1)) : ∀ (K : Nat) (l2 : Int32) (I : HI) (J : HJ), S (fL (zs b)) mX11_why (rmd 25 0 0) 0 0 (0, 0) 60 [(0, .ref 0), (2, .int l2)] [] (zs b, I, J) (F_X11_why_L60 kx94 K l2 I J) := by
  intro K
  induction K with
  | zero => intro l2 I J; exact S.none
  | succ K ih =>
    intro l2 I J
    rw [F_X11_why_L60]
    refine S.iload_n 28 1 rfl rfl ?_
    refine S.aload_n 29 0 rfl rfl ?_
    refine S.getR 30 rfl fo_X11_44 rfl rfl rfl ?_
    refine S.getI 31 rfl fo_X11_225 rfl rfl ?_
    refine S.icmp_ge 94 32 rfl (by decide) (fun _ => ?_) (fun _ => ?_)
    · refine S.sub (lv' := [(0, .ref 0)]) [0] rfl ?_
      exact hkx94 _ _
    · refine S.aload_n 33 0 rfl rfl ?_
      refine S.getR 34 rfl fo_X11_35 rfl rfl rfl ?_
      refine S.aload_n 35 0 rfl rfl ?_
      refine S.getR 36 rfl fo_X11_44 rfl rfl rfl ?_
      refine S.getR 37 rfl fo_X11_228 rfl rfl rfl ?_
      refine S.iload_n 38 1 rfl rfl ?_
      refine S.iald 39 rfl rfl ?_
      refine S.i2l 40 rfl ?_
      refine S.cVV (d := 1) (av := [.long (Int32.toInt64 (I x_flow_bestWay (Int32.toNatClampNeg l2)))]) (rs := [.long (Int32.toInt64 (I x_flow_bestWay (Int32.toNatClampNeg l2)))]) (b := 15) 41 rfl co_X11_211 rfl rfl rfl rfl rfl ⟨⟨Nat.le_of_ble_eq_true rfl, Nat.le_of_ble_eq_true rfl⟩, ⟨Nat.le_of_ble_eq_true rfl, Nat.le_of_ble_eq_true rfl⟩, Nat.le_of_ble_eq_true rfl⟩ (cm_X10_add b (Int32.toInt64 (I x_flow_bestWay (Int32.toNatClampNeg l2))) I J) (fun _ I6 J7 => ?_)
      refine S.iinc (l2 + 1) [(2, .int (l2 + 1)), (0, .ref 0)] 42 1 rfl rfl rfl (by decide) rfl ?_
      refine S.goto 60 43 rfl (by decide) ?_
      refine S.sub (lv' := [(0, .ref 0), (2, .int (l2 + 1))]) [1, 0] rfl ?_
      exact ih _ _ _
def F_X11_why (l1 : Int32) (I : HI) (J : HJ) : Option (Int64 × HI × HJ) :=
  cp (F_X0_hasLamp l1 I J) fun r1 =>
  if r1 = 0 then
    some ((-1 : Int64), I, J)
  else
    cl (F_X1_watch l1 (I x_notes f_Notes_high) (I x_notes f_Notes_low) I J) fun _ I2 J3 =>
    if (I2 x_flow f_Flow_passing) = 0 then
      some ((-2 : Int64), I2, J3)
    else
      cl (F_X10_clear I2 J3) fun _ I4 J5 =>
      F_X11_why_L60 (fun (I8 : HI) (J9 : HJ) =>
      some ((J9 x_flow f_Flow_best), I8, J9)) bgf (0 : Int32) I4 J5
set_option maxRecDepth 100000 in
theorem cm_X11_why (b : Bool) (l1 : Int32) (I : HI) (J : HJ) : CM mX11_why 25 0 0 [.ref 0, .int l1] (zs b, I, J) (fL (zs b)) (F_X11_why l1 I J) := by
  refine S.of okX11_why pn_X11 (Nat.le_of_ble_eq_true rfl) ?_
  refine S.sub (lv' := [(0, .ref 0), (1, .int l1)]) [0, 1] rfl ?_
  unfold F_X11_why
  refine S.aload_n 0 0 rfl rfl ?_
  refine S.getR 1 rfl fo_X11_10 rfl rfl rfl ?_
  refine S.iload_n 2 1 rfl rfl ?_
  refine S.qVI (d := 1) (av := [.int l1]) (rs := [.int l1]) (b := 1) 3 rfl co_X11_136 rfl rfl rfl rfl rfl ⟨⟨Nat.le_of_ble_eq_true rfl, Nat.le_of_ble_eq_true rfl⟩, ⟨Nat.le_of_ble_eq_true rfl, Nat.le_of_ble_eq_true rfl⟩, Nat.le_of_ble_eq_true rfl⟩ (cm_X0_hasLamp b l1 I J) (fun r1 => ?_)
  refine S.if_ne 15 4 rfl (by decide) (fun _ => ?_) (fun _ => ?_)
  · refine S.aload_n 7 0 rfl rfl ?_
    refine S.getR 8 rfl fo_X11_44 rfl rfl rfl ?_
    refine S.iload_n 9 1 rfl rfl ?_
    refine S.aload_n 10 0 rfl rfl ?_
    refine S.getR 11 rfl fo_X11_51 rfl rfl rfl ?_
    refine S.getI 12 rfl fo_X11_180 rfl rfl ?_
    refine S.aload_n 13 0 rfl rfl ?_
    refine S.getR 14 rfl fo_X11_51 rfl rfl rfl ?_
    refine S.getI 15 rfl fo_X11_183 rfl rfl ?_
    refine S.cVV (d := 24) (av := [.int l1, .int (I x_notes f_Notes_high), .int (I x_notes f_Notes_low)]) (rs := [.int (I x_notes f_Notes_low), .int (I x_notes f_Notes_high), .int l1]) (b := 17) 16 rfl co_X11_201 rfl rfl rfl rfl rfl ⟨⟨Nat.le_of_ble_eq_true rfl, Nat.le_of_ble_eq_true rfl⟩, ⟨Nat.le_of_ble_eq_true rfl, Nat.le_of_ble_eq_true rfl⟩, Nat.le_of_ble_eq_true rfl⟩ (cm_X1_watch b l1 (I x_notes f_Notes_high) (I x_notes f_Notes_low) I J) (fun _ I2 J3 => ?_)
    refine S.aload_n 17 0 rfl rfl ?_
    refine S.getR 18 rfl fo_X11_44 rfl rfl rfl ?_
    refine S.getI 19 rfl fo_X11_208 rfl rfl ?_
    refine S.if_ne 51 20 rfl (by decide) (fun _ => ?_) (fun _ => ?_)
    · refine S.aload_n 23 0 rfl rfl ?_
      refine S.getR 24 rfl fo_X11_35 rfl rfl rfl ?_
      refine S.cVV (d := 1) (av := []) (rs := []) (b := 15) 25 rfl co_X11_205 rfl rfl rfl rfl rfl ⟨⟨Nat.le_of_ble_eq_true rfl, Nat.le_of_ble_eq_true rfl⟩, ⟨Nat.le_of_ble_eq_true rfl, Nat.le_of_ble_eq_true rfl⟩, Nat.le_of_ble_eq_true rfl⟩ (cm_X10_clear b I2 J3) (fun _ I4 J5 => ?_)
      refine S.iconst (0 : Int32) 26 rfl (by decide) ?_
      refine S.istore_n [(2, .int (0 : Int32)), (0, .ref 0), (1, .int l1)] 27 rfl (by decide) rfl ?_
      refine S.sub (lv' := [(0, .ref 0), (2, .int (0 : Int32))]) [1, 0] rfl ?_
      refine s_X11_why_L60 b _ (fun I8 J9 => ?_) bgf _ _ _
      refine S.aload_n 44 0 rfl rfl ?_
      refine S.getR 45 rfl fo_X11_44 rfl rfl rfl ?_
      refine S.getJ 46 rfl fo_X11_215 rfl rfl ?_
      exact S.lret 47 rfl rfl (Nat.le_refl _) (Nat.le_refl _) rfl
    · refine S.ldc2 (-2 : Int64) 21 rfl ko_X11_223 ?_
      exact S.lret 22 rfl rfl (Nat.le_refl _) (Nat.le_refl _) rfl
  · refine S.ldc2 (-1 : Int64) 5 rfl ko_X11_199 ?_
    exact S.lret 6 rfl rfl (Nat.le_refl _) (Nat.le_refl _) rfl
def F_X11_draws (l1 : Int32) (I : HI) (J : HJ) : Option (Int64 × HI × HJ) :=
  cp (F_X0_hasWire l1 I J) fun r1 =>
  if r1 = 0 then
    some ((-1 : Int64), I, J)
  else
    cl (F_X1_glowing (I x_notes f_Notes_high) (I x_notes f_Notes_low) I J) fun r2 I3 J4 =>
    bx l1 10 <|
    some ((J4 x_flow_drawn (Int32.toNatClampNeg l1)), I3, J4)
set_option maxRecDepth 100000 in
theorem cm_X11_draws (b : Bool) (l1 : Int32) (I : HI) (J : HJ) : CM mX11_draws 25 0 0 [.ref 0, .int l1] (zs b, I, J) (fL (zs b)) (F_X11_draws l1 I J) := by
  refine S.of okX11_draws pn_X11 (Nat.le_of_ble_eq_true rfl) ?_
  refine S.sub (lv' := [(0, .ref 0), (1, .int l1)]) [0, 1] rfl ?_
  unfold F_X11_draws
  refine S.aload_n 0 0 rfl rfl ?_
  refine S.getR 1 rfl fo_X11_10 rfl rfl rfl ?_
  refine S.iload_n 2 1 rfl rfl ?_
  refine S.qVI (d := 1) (av := [.int l1]) (rs := [.int l1]) (b := 1) 3 rfl co_X11_152 rfl rfl rfl rfl rfl ⟨⟨Nat.le_of_ble_eq_true rfl, Nat.le_of_ble_eq_true rfl⟩, ⟨Nat.le_of_ble_eq_true rfl, Nat.le_of_ble_eq_true rfl⟩, Nat.le_of_ble_eq_true rfl⟩ (cm_X0_hasWire b l1 I J) (fun r1 => ?_)
  refine S.if_ne 15 4 rfl (by decide) (fun _ => ?_) (fun _ => ?_)
  · refine S.aload_n 7 0 rfl rfl ?_
    refine S.getR 8 rfl fo_X11_44 rfl rfl rfl ?_
    refine S.aload_n 9 0 rfl rfl ?_
    refine S.getR 10 rfl fo_X11_51 rfl rfl rfl ?_
    refine S.getI 11 rfl fo_X11_180 rfl rfl ?_
    refine S.aload_n 12 0 rfl rfl ?_
    refine S.getR 13 rfl fo_X11_51 rfl rfl rfl ?_
    refine S.getI 14 rfl fo_X11_183 rfl rfl ?_
    refine S.cVL (d := 24) (av := [.int (I x_notes f_Notes_high), .int (I x_notes f_Notes_low)]) (rs := [.int (I x_notes f_Notes_low), .int (I x_notes f_Notes_high)]) (b := 17) 15 rfl co_X11_186 rfl rfl rfl rfl rfl ⟨⟨Nat.le_of_ble_eq_true rfl, Nat.le_of_ble_eq_true rfl⟩, ⟨Nat.le_of_ble_eq_true rfl, Nat.le_of_ble_eq_true rfl⟩, Nat.le_of_ble_eq_true rfl⟩ (cm_X1_glowing b (I x_notes f_Notes_high) (I x_notes f_Notes_low) I J) (fun r2 I3 J4 => ?_)
    refine S.pop2_2 16 rfl rfl ?_
    refine S.aload_n 17 0 rfl rfl ?_
    refine S.getR 18 rfl fo_X11_44 rfl rfl rfl ?_
    refine S.getR 19 rfl fo_X11_231 rfl rfl rfl ?_
    refine S.iload_n 20 1 rfl rfl ?_
    refine S.lald 21 rfl rfl ?_
    exact S.lret 22 rfl rfl (Nat.le_refl _) (Nat.le_refl _) rfl
  · refine S.ldc2 (-1 : Int64) 5 rfl ko_X11_199 ?_
    exact S.lret 6 rfl rfl (Nat.le_refl _) (Nat.le_refl _) rfl
def F_X11_brightest_L44 (l1 : Int64) (I : HI) (J : HJ) (kx139 : Int32 → Int32 → Option (Int32 × HI × HJ)) : Nat → Int32 → Int32 → Int32 → Option (Int32 × HI × HJ)
  | 0, _, _, _ => none
  | K+1, l3, l4, l5 =>
    if (I x_board f_Board_lamps) ≤ l5 then
      kx139 l3 l4
    else
      lb (fun (y7 : Int32) (y8 : Int32) =>
      F_X11_brightest_L44 l1 I J kx139 K y7 y8 (l5 + 1)) fun j9 =>
      if (lg_cmp ((olushr l1 l5) &&& (1 : Int64)) (0 : Int64)) = 0 then
        j9 l3 l4
      else
        bx l5 64 <|
        bx l3 64 <|
        lb (fun (y10 : Int32) =>
        bx l5 64 <|
        bx l4 64 <|
        lb (fun (y12 : Int32) =>
        j9 y10 y12) fun j13 =>
        if 0 ≤ (lg_cmp (J x_flow_light (Int32.toNatClampNeg l5)) (J x_flow_light (Int32.toNatClampNeg l4))) then
          j13 l4
        else
          j13 l5) fun j11 =>
        if (lg_cmp (J x_flow_light (Int32.toNatClampNeg l5)) (J x_flow_light (Int32.toNatClampNeg l3))) ≤ 0 then
          j11 l3
        else
          j11 l5
set_option maxRecDepth 100000 in
theorem s_X11_brightest_L44 (b : Bool) (l1 : Int64) (I : HI) (J : HJ) (kx139 : Int32 → Int32 → Option (Int32 × HI × HJ)) (hkx139 : ∀ (y3 : Int32) (y4 : Int32), S (fI (zs b)) mX11_brightest (rmd 25 0 0) 0 0 (0, 0) 139 [(0, .ref 0), (3, .int y3), (4, .int y4)] [] (zs b, I, J) (kx139 y3 y4)) : ∀ (K : Nat) (l3 : Int32) (l4 : Int32) (l5 : Int32), S (fI (zs b)) mX11_brightest (rmd 25 0 0) 0 0 (0, 0) 44 [(0, .ref 0), (1, .long l1), (3, .int l3), (4, .int l4), (5, .int l5)] [] (zs b, I, J) (F_X11_brightest_L44 l1 I J kx139 K l3 l4 l5) := by
  intro K
  induction K with
  | zero => intro l3 l4 l5; exact S.none
  | succ K ih =>
    intro l3 l4 l5
    rw [F_X11_brightest_L44]
    refine S.iload 25 4 rfl rfl ?_
    refine S.aload_n 26 0 rfl rfl ?_
    refine S.getR 27 rfl fo_X11_10 rfl rfl rfl ?_
    refine S.getI 28 rfl fo_X11_109 rfl rfl ?_
    refine S.icmp_ge 139 29 rfl (by decide) (fun _ => ?_) (fun _ => ?_)
    · refine S.sub (lv' := [(0, .ref 0), (3, .int l3), (4, .int l4)]) [0, 2, 3] rfl ?_
      exact hkx139 _ _
    · refine S.lload_n 30 1 rfl rfl ?_
      refine S.iload 31 4 rfl rfl ?_
      refine S.lushr 32 rfl ?_
      refine S.lconst (1 : Int64) 33 rfl (by decide) ?_
      refine S.land 34 rfl ?_
      refine S.lconst (0 : Int64) 35 rfl (by decide) ?_
      refine S.lcmp 36 rfl ?_
      refine S.jn (fun j => ∀ (y7 : Int32) (y8 : Int32), S (fI (zs b)) mX11_brightest (rmd 25 0 0) 0 0 (0, 0) 133 [(0, .ref 0), (1, .long l1), (3, .int y7), (4, .int y8), (5, .int l5)] [] (zs b, I, J) (j y7 y8)) (fun y7 y8 => ?_) (fun j9 hj9 => ?_)
      · refine S.iinc (l5 + 1) [(5, .int (l5 + 1)), (0, .ref 0), (1, .long l1), (3, .int y7), (4, .int y8)] 71 4 rfl rfl rfl (by decide) rfl ?_
        refine S.goto 44 72 rfl (by decide) ?_
        refine S.sub (lv' := [(0, .ref 0), (1, .long l1), (3, .int y7), (4, .int y8), (5, .int (l5 + 1))]) [1, 2, 3, 4, 0] rfl ?_
        exact ih _ _ _
      · refine S.if_ne 70 37 rfl (by decide) (fun _ => ?_) (fun _ => ?_)
        · refine S.aload_n 39 0 rfl rfl ?_
          refine S.getR 40 rfl fo_X11_44 rfl rfl rfl ?_
          refine S.getR 41 rfl fo_X11_219 rfl rfl rfl ?_
          refine S.iload 42 4 rfl rfl ?_
          refine S.lald 43 rfl rfl ?_
          refine S.aload_n 44 0 rfl rfl ?_
          refine S.getR 45 rfl fo_X11_44 rfl rfl rfl ?_
          refine S.getR 46 rfl fo_X11_219 rfl rfl rfl ?_
          refine S.iload_n 47 2 rfl rfl ?_
          refine S.lald 48 rfl rfl ?_
          refine S.lcmp 49 rfl ?_
          refine S.jn (fun j => ∀ (y10 : Int32), S (fI (zs b)) mX11_brightest (rmd 25 0 0) 0 0 (0, 0) 99 [(0, .ref 0), (1, .long l1), (4, .int l4), (5, .int l5)] [.int y10] (zs b, I, J) (j y10)) (fun y10 => ?_) (fun j11 hj11 => ?_)
          · refine S.istore_n [(3, .int y10), (0, .ref 0), (1, .long l1), (4, .int l4), (5, .int l5)] 54 rfl (by decide) rfl ?_
            refine S.aload_n 55 1 rfl rfl ?_
            refine S.getR 56 rfl fo_X11_44 rfl rfl rfl ?_
            refine S.getR 57 rfl fo_X11_219 rfl rfl rfl ?_
            refine S.iload 58 4 rfl rfl ?_
            refine S.lald 59 rfl rfl ?_
            refine S.aload_n 60 1 rfl rfl ?_
            refine S.getR 61 rfl fo_X11_44 rfl rfl rfl ?_
            refine S.getR 62 rfl fo_X11_219 rfl rfl rfl ?_
            refine S.iload 63 3 rfl rfl ?_
            refine S.lald 64 rfl rfl ?_
            refine S.lcmp 65 rfl ?_
            refine S.jn (fun j => ∀ (y12 : Int32), S (fI (zs b)) mX11_brightest (rmd 25 0 0) 0 0 (0, 0) 131 [(0, .ref 0), (1, .long l1), (3, .int y10), (5, .int l5)] [.int y12] (zs b, I, J) (j y12)) (fun y12 => ?_) (fun j13 hj13 => ?_)
            · refine S.istore [(4, .int y12), (0, .ref 0), (1, .long l1), (3, .int y10), (5, .int l5)] 70 rfl (by decide) rfl ?_
              refine S.sub (lv' := [(0, .ref 0), (1, .long l1), (3, .int y10), (4, .int y12), (5, .int l5)]) [1, 2, 3, 0, 4] rfl ?_
              exact hj9 _ _
            · refine S.if_ge 129 66 rfl (by decide) (fun _ => ?_) (fun _ => ?_)
              · refine S.iload 69 3 rfl rfl ?_
                refine S.sub (lv' := [(0, .ref 0), (1, .long l1), (3, .int y10), (5, .int l5)]) [1, 2, 0, 4] rfl ?_
                exact hj13 _
              · refine S.iload 67 4 rfl rfl ?_
                refine S.goto 131 68 rfl (by decide) ?_
                refine S.sub (lv' := [(0, .ref 0), (1, .long l1), (3, .int y10), (5, .int l5)]) [1, 2, 0, 4] rfl ?_
                exact hj13 _
          · refine S.if_le 98 50 rfl (by decide) (fun _ => ?_) (fun _ => ?_)
            · refine S.iload_n 53 2 rfl rfl ?_
              refine S.sub (lv' := [(0, .ref 0), (1, .long l1), (4, .int l4), (5, .int l5)]) [0, 1, 3, 4] rfl ?_
              exact hj11 _
            · refine S.iload 51 4 rfl rfl ?_
              refine S.goto 99 52 rfl (by decide) ?_
              refine S.sub (lv' := [(0, .ref 0), (1, .long l1), (4, .int l4), (5, .int l5)]) [0, 1, 3, 4] rfl ?_
              exact hj11 _
        · refine S.goto 133 38 rfl (by decide) ?_
          exact hj9 _ _
def F_X11_brightest  (I : HI) (J : HJ) : Option (Int32 × HI × HJ) :=
  cl (F_X1_glowing (I x_notes f_Notes_high) (I x_notes f_Notes_low) I J) fun r2 I3 J4 =>
  if (lg_cmp r2 (0 : Int64)) = 0 then
    some ((-2 : Int32), I3, J4)
  else
    cp (F_J13_numberOfTrailingZeros_95d88 r2) fun r5 =>
    lb ((r5 + (1 : Int32))) fun x6 =>
    F_X11_brightest_L44 r2 I3 J4 (fun (y14 : Int32) (y15 : Int32) =>
    cl (F_X10_clear I3 J4) fun _ I16 J17 =>
    bx y14 64 <|
    cl (F_X10_add (J17 x_flow_light (Int32.toNatClampNeg y14)) I16 J17) fun _ I18 J19 =>
    cl (F_X10_add (Int32.toInt64 y15) I18 J19) fun _ I20 J21 =>
    bx y15 64 <|
    cl (F_X10_add (J21 x_flow_light (Int32.toNatClampNeg y15)) I20 J21) fun _ I22 J23 =>
    some (y14, I22, J23)) bgf r5 r5 x6
set_option maxRecDepth 100000 in
theorem cm_X11_brightest (b : Bool)  (I : HI) (J : HJ) : CM mX11_brightest 25 0 0 [.ref 0] (zs b, I, J) (fI (zs b)) (F_X11_brightest  I J) := by
  refine S.of okX11_brightest pn_X11 (Nat.le_of_ble_eq_true rfl) ?_
  refine S.sub (lv' := [(0, .ref 0)]) [0] rfl ?_
  unfold F_X11_brightest
  refine S.aload_n 0 0 rfl rfl ?_
  refine S.getR 1 rfl fo_X11_44 rfl rfl rfl ?_
  refine S.aload_n 2 0 rfl rfl ?_
  refine S.getR 3 rfl fo_X11_51 rfl rfl rfl ?_
  refine S.getI 4 rfl fo_X11_180 rfl rfl ?_
  refine S.aload_n 5 0 rfl rfl ?_
  refine S.getR 6 rfl fo_X11_51 rfl rfl rfl ?_
  refine S.getI 7 rfl fo_X11_183 rfl rfl ?_
  refine S.cVL (d := 24) (av := [.int (I x_notes f_Notes_high), .int (I x_notes f_Notes_low)]) (rs := [.int (I x_notes f_Notes_low), .int (I x_notes f_Notes_high)]) (b := 17) 8 rfl co_X11_186 rfl rfl rfl rfl rfl ⟨⟨Nat.le_of_ble_eq_true rfl, Nat.le_of_ble_eq_true rfl⟩, ⟨Nat.le_of_ble_eq_true rfl, Nat.le_of_ble_eq_true rfl⟩, Nat.le_of_ble_eq_true rfl⟩ (cm_X1_glowing b (I x_notes f_Notes_high) (I x_notes f_Notes_low) I J) (fun r2 I3 J4 => ?_)
  refine S.lstore_n [(1, .long r2), (0, .ref 0)] 9 rfl (by decide) rfl ?_
  refine S.lload_n 10 0 rfl rfl ?_
  refine S.lconst (0 : Int64) 11 rfl (by decide) ?_
  refine S.lcmp 12 rfl ?_
  refine S.if_ne 31 13 rfl (by decide) (fun _ => ?_) (fun _ => ?_)
  · refine S.lload_n 16 0 rfl rfl ?_
    refine S.qSI (d := 2) (av := [.long r2]) (rs := [.long r2]) 17 rfl co_X11_234 rfl rfl ⟨⟨Nat.le_of_ble_eq_true rfl, Nat.le_of_ble_eq_true rfl⟩, ⟨Nat.le_of_ble_eq_true rfl, Nat.le_of_ble_eq_true rfl⟩, Nat.le_of_ble_eq_true rfl⟩ (cm_J13_numberOfTrailingZeros_95d88 (zs b, I3, J4) r2) (fun r5 => ?_)
    refine S.istore_n [(3, .int r5), (1, .long r2), (0, .ref 0)] 18 rfl (by decide) rfl ?_
    refine S.iload_n 19 0 rfl rfl ?_
    refine S.istore [(4, .int r5), (3, .int r5), (1, .long r2), (0, .ref 0)] 20 rfl (by decide) rfl ?_
    refine S.iload_n 21 1 rfl rfl ?_
    refine S.iconst (1 : Int32) 22 rfl (by decide) ?_
    refine S.iadd 23 rfl ?_
    refine S.nmi (fun x6 => ?_)
    refine S.istore [(5, .int x6), (4, .int r5), (3, .int r5), (1, .long r2), (0, .ref 0)] 24 rfl (by decide) rfl ?_
    refine S.sub (lv' := [(0, .ref 0), (1, .long r2), (3, .int r5), (4, .int r5), (5, .int x6)]) [4, 3, 2, 1, 0] rfl ?_
    refine s_X11_brightest_L44 b _ _ _ _ (fun y14 y15 => ?_) bgf _ _ _
    refine S.aload_n 73 0 rfl rfl ?_
    refine S.getR 74 rfl fo_X11_35 rfl rfl rfl ?_
    refine S.cVV (d := 1) (av := []) (rs := []) (b := 15) 75 rfl co_X11_205 rfl rfl rfl rfl rfl ⟨⟨Nat.le_of_ble_eq_true rfl, Nat.le_of_ble_eq_true rfl⟩, ⟨Nat.le_of_ble_eq_true rfl, Nat.le_of_ble_eq_true rfl⟩, Nat.le_of_ble_eq_true rfl⟩ (cm_X10_clear b I3 J4) (fun _ I16 J17 => ?_)
    refine S.aload_n 76 0 rfl rfl ?_
    refine S.getR 77 rfl fo_X11_35 rfl rfl rfl ?_
    refine S.aload_n 78 0 rfl rfl ?_
    refine S.getR 79 rfl fo_X11_44 rfl rfl rfl ?_
    refine S.getR 80 rfl fo_X11_219 rfl rfl rfl ?_
    refine S.iload_n 81 1 rfl rfl ?_
    refine S.lald 82 rfl rfl ?_
    refine S.cVV (d := 1) (av := [.long (J17 x_flow_light (Int32.toNatClampNeg y14))]) (rs := [.long (J17 x_flow_light (Int32.toNatClampNeg y14))]) (b := 15) 83 rfl co_X11_211 rfl rfl rfl rfl rfl ⟨⟨Nat.le_of_ble_eq_true rfl, Nat.le_of_ble_eq_true rfl⟩, ⟨Nat.le_of_ble_eq_true rfl, Nat.le_of_ble_eq_true rfl⟩, Nat.le_of_ble_eq_true rfl⟩ (cm_X10_add b (J17 x_flow_light (Int32.toNatClampNeg y14)) I16 J17) (fun _ I18 J19 => ?_)
    refine S.aload_n 84 0 rfl rfl ?_
    refine S.getR 85 rfl fo_X11_35 rfl rfl rfl ?_
    refine S.iload 86 2 rfl rfl ?_
    refine S.i2l 87 rfl ?_
    refine S.cVV (d := 1) (av := [.long (Int32.toInt64 y15)]) (rs := [.long (Int32.toInt64 y15)]) (b := 15) 88 rfl co_X11_211 rfl rfl rfl rfl rfl ⟨⟨Nat.le_of_ble_eq_true rfl, Nat.le_of_ble_eq_true rfl⟩, ⟨Nat.le_of_ble_eq_true rfl, Nat.le_of_ble_eq_true rfl⟩, Nat.le_of_ble_eq_true rfl⟩ (cm_X10_add b (Int32.toInt64 y15) I18 J19) (fun _ I20 J21 => ?_)
    refine S.aload_n 89 0 rfl rfl ?_
    refine S.getR 90 rfl fo_X11_35 rfl rfl rfl ?_
    refine S.aload_n 91 0 rfl rfl ?_
    refine S.getR 92 rfl fo_X11_44 rfl rfl rfl ?_
    refine S.getR 93 rfl fo_X11_219 rfl rfl rfl ?_
    refine S.iload 94 2 rfl rfl ?_
    refine S.lald 95 rfl rfl ?_
    refine S.cVV (d := 1) (av := [.long (J21 x_flow_light (Int32.toNatClampNeg y15))]) (rs := [.long (J21 x_flow_light (Int32.toNatClampNeg y15))]) (b := 15) 96 rfl co_X11_211 rfl rfl rfl rfl rfl ⟨⟨Nat.le_of_ble_eq_true rfl, Nat.le_of_ble_eq_true rfl⟩, ⟨Nat.le_of_ble_eq_true rfl, Nat.le_of_ble_eq_true rfl⟩, Nat.le_of_ble_eq_true rfl⟩ (cm_X10_add b (J21 x_flow_light (Int32.toNatClampNeg y15)) I20 J21) (fun _ I22 J23 => ?_)
    refine S.iload_n 97 1 rfl rfl ?_
    exact S.iret 98 rfl rfl rfl (Nat.le_refl _) (Nat.le_refl _) rfl
  · refine S.bipush (-2 : Int32) 14 rfl (by decide) ?_
    exact S.iret 15 rfl rfl rfl (Nat.le_refl _) (Nat.le_refl _) rfl
def F_X11_isSearchable  (I : HI) (J : HJ) : Option Int32 :=
  if (7 : Int32) < (I x_board f_Board_wide) then
    some (0 : Int32)
  else
    some (1 : Int32)
set_option maxRecDepth 100000 in
theorem cm_X11_isSearchable (b : Bool)  (I : HI) (J : HJ) : CM mX11_isSearchable 1 0 0 [.ref 0] (zs b, I, J) (pI (zs b, I, J)) (F_X11_isSearchable  I J) := by
  refine S.of okX11_isSearchable pn_X11 (Nat.le_of_ble_eq_true rfl) ?_
  refine S.sub (lv' := [(0, .ref 0)]) [0] rfl ?_
  unfold F_X11_isSearchable
  refine S.aload_n 0 0 rfl rfl ?_
  refine S.getR 1 rfl fo_X11_10 rfl rfl rfl ?_
  refine S.getI 2 rfl fo_X11_106 rfl rfl ?_
  refine S.bipush (7 : Int32) 3 rfl (by decide) ?_
  refine S.icmp_gt 16 4 rfl (by decide) (fun _ => ?_) (fun _ => ?_)
  · refine S.iconst (0 : Int32) 7 rfl (by decide) ?_
    exact S.iret 8 rfl rfl rfl (Nat.le_refl _) (Nat.le_refl _) rfl
  · refine S.iconst (1 : Int32) 5 rfl (by decide) ?_
    refine S.goto 17 6 rfl (by decide) ?_
    exact S.iret 8 rfl rfl rfl (Nat.le_refl _) (Nat.le_refl _) rfl
def F_X11_openTable  (I : HI) (J : HJ) : Option (Int32 × HI × HJ) :=
  cp (F_X11_isSearchable I J) fun r1 =>
  if r1 = 0 then
    some ((0 : Int32), I, J)
  else
    cl (F_X8_refresh I J) fun _ I2 J3 =>
    some ((1 : Int32), I2, J3)
set_option maxRecDepth 100000 in
theorem cm_X11_openTable (b : Bool)  (I : HI) (J : HJ) : CM mX11_openTable 25 0 0 [.ref 0] (zs b, I, J) (fI (zs b)) (F_X11_openTable  I J) := by
  refine S.of okX11_openTable pn_X11 (Nat.le_of_ble_eq_true rfl) ?_
  refine S.sub (lv' := [(0, .ref 0)]) [0] rfl ?_
  unfold F_X11_openTable
  refine S.aload_n 0 0 rfl rfl ?_
  refine S.qVI (d := 1) (av := []) (rs := []) (b := 0) 1 rfl co_X11_426 rfl rfl rfl rfl rfl ⟨⟨Nat.le_of_ble_eq_true rfl, Nat.le_of_ble_eq_true rfl⟩, ⟨Nat.le_of_ble_eq_true rfl, Nat.le_of_ble_eq_true rfl⟩, Nat.le_of_ble_eq_true rfl⟩ (cm_X11_isSearchable b I J) (fun r1 => ?_)
  refine S.if_ne 9 2 rfl (by decide) (fun _ => ?_) (fun _ => ?_)
  · refine S.aload_n 5 0 rfl rfl ?_
    refine S.getR 6 rfl fo_X11_60 rfl rfl rfl ?_
    refine S.cVV (d := 24) (av := []) (rs := []) (b := 30) 7 rfl co_X11_429 rfl rfl rfl rfl rfl ⟨⟨Nat.le_of_ble_eq_true rfl, Nat.le_of_ble_eq_true rfl⟩, ⟨Nat.le_of_ble_eq_true rfl, Nat.le_of_ble_eq_true rfl⟩, Nat.le_of_ble_eq_true rfl⟩ (cm_X8_refresh b I J) (fun _ I2 J3 => ?_)
    refine S.iconst (1 : Int32) 8 rfl (by decide) ?_
    exact S.iret 9 rfl rfl rfl (Nat.le_refl _) (Nat.le_refl _) rfl
  · refine S.iconst (0 : Int32) 3 rfl (by decide) ?_
    exact S.iret 4 rfl rfl rfl (Nat.le_refl _) (Nat.le_refl _) rfl
def F_X11_shows_L32 (l1 : Int64) (I : HI) (J : HJ) (kx80 : Int32 → Int32 → Option (Int32 × HI × HJ)) : Nat → Int32 → Int32 → Int32 → Option (Int32 × HI × HJ)
  | 0, _, _, _ => none
  | K+1, l3, l4, l5 =>
    if (I x_table f_Table_size) ≤ l5 then
      kx80 l3 l4
    else
      bx l5 2187 <|
      lb (fun (y5 : Int32) (y6 : Int32) =>
      F_X11_shows_L32 l1 I J kx80 K y5 y6 (l5 + 1)) fun j7 =>
      if (lg_cmp (J x_table_glow (Int32.toNatClampNeg l5)) l1) = 0 then
        lb (fun (y8 : Int32) =>
        j7 y8 (l4 + 1)) fun j9 =>
        if l4 = 0 then
          j9 l5
        else
          j9 l3
      else
        j7 l3 l4
set_option maxRecDepth 100000 in
theorem s_X11_shows_L32 (b : Bool) (l1 : Int64) (I : HI) (J : HJ) (kx80 : Int32 → Int32 → Option (Int32 × HI × HJ)) (hkx80 : ∀ (y3 : Int32) (y4 : Int32), S (fI (zs b)) mX11_shows (rmd 26 0 0) 0 0 (0, 0) 80 [(0, .ref 0), (3, .int y3), (4, .int y4)] [] (zs b, I, J) (kx80 y3 y4)) : ∀ (K : Nat) (l3 : Int32) (l4 : Int32) (l5 : Int32), S (fI (zs b)) mX11_shows (rmd 26 0 0) 0 0 (0, 0) 32 [(0, .ref 0), (1, .long l1), (3, .int l3), (4, .int l4), (5, .int l5)] [] (zs b, I, J) (F_X11_shows_L32 l1 I J kx80 K l3 l4 l5) := by
  intro K
  induction K with
  | zero => intro l3 l4 l5; exact S.none
  | succ K ih =>
    intro l3 l4 l5
    rw [F_X11_shows_L32]
    refine S.iload 18 4 rfl rfl ?_
    refine S.aload_n 19 0 rfl rfl ?_
    refine S.getR 20 rfl fo_X11_60 rfl rfl rfl ?_
    refine S.getI 21 rfl fo_X11_245 rfl rfl ?_
    refine S.icmp_ge 80 22 rfl (by decide) (fun _ => ?_) (fun _ => ?_)
    · refine S.sub (lv' := [(0, .ref 0), (3, .int l3), (4, .int l4)]) [0, 2, 3] rfl ?_
      exact hkx80 _ _
    · refine S.aload_n 23 0 rfl rfl ?_
      refine S.getR 24 rfl fo_X11_60 rfl rfl rfl ?_
      refine S.getR 25 rfl fo_X11_246 rfl rfl rfl ?_
      refine S.iload 26 4 rfl rfl ?_
      refine S.lald 27 rfl rfl ?_
      refine S.lload_n 28 1 rfl rfl ?_
      refine S.lcmp 29 rfl ?_
      refine S.jn (fun j => ∀ (y5 : Int32) (y6 : Int32), S (fI (zs b)) mX11_shows (rmd 26 0 0) 0 0 (0, 0) 74 [(0, .ref 0), (1, .long l1), (3, .int y5), (4, .int y6), (5, .int l5)] [] (zs b, I, J) (j y5 y6)) (fun y5 y6 => ?_) (fun j7 hj7 => ?_)
      · refine S.iinc (l5 + 1) [(5, .int (l5 + 1)), (0, .ref 0), (1, .long l1), (3, .int y5), (4, .int y6)] 38 4 rfl rfl rfl (by decide) rfl ?_
        refine S.goto 32 39 rfl (by decide) ?_
        refine S.sub (lv' := [(0, .ref 0), (1, .long l1), (3, .int y5), (4, .int y6), (5, .int (l5 + 1))]) [1, 2, 3, 4, 0] rfl ?_
        exact ih _ _ _
      · refine S.if_ne 74 30 rfl (by decide) (fun _ => ?_) (fun _ => ?_)
        · exact hj7 _ _
        · refine S.iload 31 3 rfl rfl ?_
          refine S.jn (fun j => ∀ (y8 : Int32), S (fI (zs b)) mX11_shows (rmd 26 0 0) 0 0 (0, 0) 70 [(0, .ref 0), (1, .long l1), (4, .int l4), (5, .int l5)] [.int y8] (zs b, I, J) (j y8)) (fun y8 => ?_) (fun j9 hj9 => ?_)
          · refine S.istore_n [(3, .int y8), (0, .ref 0), (1, .long l1), (4, .int l4), (5, .int l5)] 36 rfl (by decide) rfl ?_
            refine S.iinc (l4 + 1) [(4, .int (l4 + 1)), (3, .int y8), (0, .ref 0), (1, .long l1), (5, .int l5)] 37 3 rfl rfl rfl (by decide) rfl ?_
            refine S.sub (lv' := [(0, .ref 0), (1, .long l1), (3, .int y8), (4, .int (l4 + 1)), (5, .int l5)]) [2, 3, 1, 0, 4] rfl ?_
            exact hj7 _ _
          · refine S.if_ne 69 32 rfl (by decide) (fun _ => ?_) (fun _ => ?_)
            · refine S.iload_n 35 2 rfl rfl ?_
              refine S.sub (lv' := [(0, .ref 0), (1, .long l1), (4, .int l4), (5, .int l5)]) [0, 1, 3, 4] rfl ?_
              exact hj9 _
            · refine S.iload 33 4 rfl rfl ?_
              refine S.goto 70 34 rfl (by decide) ?_
              refine S.sub (lv' := [(0, .ref 0), (1, .long l1), (4, .int l4), (5, .int l5)]) [0, 1, 3, 4] rfl ?_
              exact hj9 _
def F_X11_shows (l1 : Int64) (I : HI) (J : HJ) : Option (Int32 × HI × HJ) :=
  cp (F_X0_hasLamps l1 I J) fun r1 =>
  if r1 = 0 then
    some ((-1 : Int32), I, J)
  else
    cl (F_X11_openTable I J) fun r2 I3 J4 =>
    if r2 = 0 then
      some ((-3 : Int32), I3, J4)
    else
      F_X11_shows_L32 l1 I3 J4 (fun (y10 : Int32) (y11 : Int32) =>
      if y11 ≤ 0 then
        some (y10, I3, J4)
      else
        cl (F_X10_clear I3 J4) fun _ I12 J13 =>
        bx y10 2187 <|
        cl (F_X10_add (Int32.toInt64 (I12 x_table_high (Int32.toNatClampNeg y10))) I12 J13) fun _ I14 J15 =>
        bx y10 2187 <|
        cl (F_X10_add (Int32.toInt64 (I14 x_table_low (Int32.toNatClampNeg y10))) I14 J15) fun _ I16 J17 =>
        cl (F_X10_add (Int32.toInt64 y11) I16 J17) fun _ I18 J19 =>
        some (y10, I18, J19)) bgf (-2 : Int32) (0 : Int32) (0 : Int32)
set_option maxRecDepth 100000 in
theorem cm_X11_shows (b : Bool) (l1 : Int64) (I : HI) (J : HJ) : CM mX11_shows 26 0 0 [.ref 0, .long l1] (zs b, I, J) (fI (zs b)) (F_X11_shows l1 I J) := by
  refine S.of okX11_shows pn_X11 (Nat.le_of_ble_eq_true rfl) ?_
  refine S.sub (lv' := [(0, .ref 0), (1, .long l1)]) [0, 1] rfl ?_
  unfold F_X11_shows
  refine S.aload_n 0 0 rfl rfl ?_
  refine S.getR 1 rfl fo_X11_10 rfl rfl rfl ?_
  refine S.lload_n 2 1 rfl rfl ?_
  refine S.qVI (d := 1) (av := [.long l1]) (rs := [.long l1]) (b := 1) 3 rfl co_X11_237 rfl rfl rfl rfl rfl ⟨⟨Nat.le_of_ble_eq_true rfl, Nat.le_of_ble_eq_true rfl⟩, ⟨Nat.le_of_ble_eq_true rfl, Nat.le_of_ble_eq_true rfl⟩, Nat.le_of_ble_eq_true rfl⟩ (cm_X0_hasLamps b l1 I J) (fun r1 => ?_)
  refine S.if_ne 13 4 rfl (by decide) (fun _ => ?_) (fun _ => ?_)
  · refine S.aload_n 7 0 rfl rfl ?_
    refine S.cVI (d := 25) (av := []) (rs := []) (b := 0) 8 rfl co_X11_241 rfl rfl rfl rfl rfl ⟨⟨Nat.le_of_ble_eq_true rfl, Nat.le_of_ble_eq_true rfl⟩, ⟨Nat.le_of_ble_eq_true rfl, Nat.le_of_ble_eq_true rfl⟩, Nat.le_of_ble_eq_true rfl⟩ (cm_X11_openTable b I J) (fun r2 I3 J4 => ?_)
    refine S.if_ne 23 9 rfl (by decide) (fun _ => ?_) (fun _ => ?_)
    · refine S.bipush (-2 : Int32) 12 rfl (by decide) ?_
      refine S.istore_n [(3, .int (-2 : Int32)), (0, .ref 0), (1, .long l1)] 13 rfl (by decide) rfl ?_
      refine S.iconst (0 : Int32) 14 rfl (by decide) ?_
      refine S.istore [(4, .int (0 : Int32)), (3, .int (-2 : Int32)), (0, .ref 0), (1, .long l1)] 15 rfl (by decide) rfl ?_
      refine S.iconst (0 : Int32) 16 rfl (by decide) ?_
      refine S.istore [(5, .int (0 : Int32)), (4, .int (0 : Int32)), (3, .int (-2 : Int32)), (0, .ref 0), (1, .long l1)] 17 rfl (by decide) rfl ?_
      refine S.sub (lv' := [(0, .ref 0), (1, .long l1), (3, .int (-2 : Int32)), (4, .int (0 : Int32)), (5, .int (0 : Int32))]) [3, 4, 2, 1, 0] rfl ?_
      refine s_X11_shows_L32 b _ _ _ _ (fun y10 y11 => ?_) bgf _ _ _
      refine S.iload 40 2 rfl rfl ?_
      refine S.if_le 136 41 rfl (by decide) (fun _ => ?_) (fun _ => ?_)
      · refine S.iload_n 68 1 rfl rfl ?_
        exact S.iret 69 rfl rfl rfl (Nat.le_refl _) (Nat.le_refl _) rfl
      · refine S.aload_n 42 0 rfl rfl ?_
        refine S.getR 43 rfl fo_X11_35 rfl rfl rfl ?_
        refine S.cVV (d := 1) (av := []) (rs := []) (b := 15) 44 rfl co_X11_205 rfl rfl rfl rfl rfl ⟨⟨Nat.le_of_ble_eq_true rfl, Nat.le_of_ble_eq_true rfl⟩, ⟨Nat.le_of_ble_eq_true rfl, Nat.le_of_ble_eq_true rfl⟩, Nat.le_of_ble_eq_true rfl⟩ (cm_X10_clear b I3 J4) (fun _ I12 J13 => ?_)
        refine S.aload_n 45 0 rfl rfl ?_
        refine S.getR 46 rfl fo_X11_35 rfl rfl rfl ?_
        refine S.aload_n 47 0 rfl rfl ?_
        refine S.getR 48 rfl fo_X11_60 rfl rfl rfl ?_
        refine S.getR 49 rfl fo_X11_249 rfl rfl rfl ?_
        refine S.iload_n 50 1 rfl rfl ?_
        refine S.iald 51 rfl rfl ?_
        refine S.i2l 52 rfl ?_
        refine S.cVV (d := 1) (av := [.long (Int32.toInt64 (I12 x_table_high (Int32.toNatClampNeg y10)))]) (rs := [.long (Int32.toInt64 (I12 x_table_high (Int32.toNatClampNeg y10)))]) (b := 15) 53 rfl co_X11_211 rfl rfl rfl rfl rfl ⟨⟨Nat.le_of_ble_eq_true rfl, Nat.le_of_ble_eq_true rfl⟩, ⟨Nat.le_of_ble_eq_true rfl, Nat.le_of_ble_eq_true rfl⟩, Nat.le_of_ble_eq_true rfl⟩ (cm_X10_add b (Int32.toInt64 (I12 x_table_high (Int32.toNatClampNeg y10))) I12 J13) (fun _ I14 J15 => ?_)
        refine S.aload_n 54 0 rfl rfl ?_
        refine S.getR 55 rfl fo_X11_35 rfl rfl rfl ?_
        refine S.aload_n 56 0 rfl rfl ?_
        refine S.getR 57 rfl fo_X11_60 rfl rfl rfl ?_
        refine S.getR 58 rfl fo_X11_251 rfl rfl rfl ?_
        refine S.iload_n 59 1 rfl rfl ?_
        refine S.iald 60 rfl rfl ?_
        refine S.i2l 61 rfl ?_
        refine S.cVV (d := 1) (av := [.long (Int32.toInt64 (I14 x_table_low (Int32.toNatClampNeg y10)))]) (rs := [.long (Int32.toInt64 (I14 x_table_low (Int32.toNatClampNeg y10)))]) (b := 15) 62 rfl co_X11_211 rfl rfl rfl rfl rfl ⟨⟨Nat.le_of_ble_eq_true rfl, Nat.le_of_ble_eq_true rfl⟩, ⟨Nat.le_of_ble_eq_true rfl, Nat.le_of_ble_eq_true rfl⟩, Nat.le_of_ble_eq_true rfl⟩ (cm_X10_add b (Int32.toInt64 (I14 x_table_low (Int32.toNatClampNeg y10))) I14 J15) (fun _ I16 J17 => ?_)
        refine S.aload_n 63 0 rfl rfl ?_
        refine S.getR 64 rfl fo_X11_35 rfl rfl rfl ?_
        refine S.iload 65 2 rfl rfl ?_
        refine S.i2l 66 rfl ?_
        refine S.cVV (d := 1) (av := [.long (Int32.toInt64 y11)]) (rs := [.long (Int32.toInt64 y11)]) (b := 15) 67 rfl co_X11_211 rfl rfl rfl rfl rfl ⟨⟨Nat.le_of_ble_eq_true rfl, Nat.le_of_ble_eq_true rfl⟩, ⟨Nat.le_of_ble_eq_true rfl, Nat.le_of_ble_eq_true rfl⟩, Nat.le_of_ble_eq_true rfl⟩ (cm_X10_add b (Int32.toInt64 y11) I16 J17) (fun _ I18 J19 => ?_)
        refine S.iload_n 68 1 rfl rfl ?_
        exact S.iret 69 rfl rfl rfl (Nat.le_refl _) (Nat.le_refl _) rfl
    · refine S.bipush (-3 : Int32) 10 rfl (by decide) ?_
      exact S.iret 11 rfl rfl rfl (Nat.le_refl _) (Nat.le_refl _) rfl
  · refine S.iconst (-1 : Int32) 5 rfl (by decide) ?_
    exact S.iret 6 rfl rfl rfl (Nat.le_refl _) (Nat.le_refl _) rfl
def F_X11_bars_L32 (l1 : Int64) (I : HI) (J : HJ) (kx111 : Int32 → Int32 → Option (Int32 × HI × HJ)) : Nat → Int32 → Int32 → Int32 → Option (Int32 × HI × HJ)
  | 0, _, _, _ => none
  | K+1, l3, l4, l5 =>
    if (I x_table f_Table_size) ≤ l5 then
      kx111 l3 l4
    else
      bx l5 2187 <|
      lb (fun (y5 : Int32) (y6 : Int32) =>
      F_X11_bars_L32 l1 I J kx111 K y5 y6 (l5 + 1)) fun j7 =>
      if (lg_cmp (l1 &&& ((J x_table_glow (Int32.toNatClampNeg l5)) ^^^ (-1 : Int64))) (0 : Int64)) = 0 then
        bx l5 2187 <|
        cp (F_J13_bitCount_95d88 ((J x_table_glow (Int32.toNatClampNeg l5)) &&& (l1 ^^^ (-1 : Int64)))) fun r8 =>
        lb (
        j7 r8 l5) fun j9 =>
        if l4 = (-1 : Int32) then
          j9
        else
          if l3 ≤ r8 then
            j7 l3 l4
          else
            j9
      else
        j7 l3 l4
set_option maxRecDepth 100000 in
theorem s_X11_bars_L32 (b : Bool) (l1 : Int64) (I : HI) (J : HJ) (kx111 : Int32 → Int32 → Option (Int32 × HI × HJ)) (hkx111 : ∀ (y3 : Int32) (y4 : Int32), S (fI (zs b)) mX11_bars (rmd 26 0 0) 0 0 (0, 0) 111 [(0, .ref 0), (1, .long l1), (3, .int y3), (4, .int y4)] [] (zs b, I, J) (kx111 y3 y4)) : ∀ (K : Nat) (l3 : Int32) (l4 : Int32) (l5 : Int32), S (fI (zs b)) mX11_bars (rmd 26 0 0) 0 0 (0, 0) 32 [(0, .ref 0), (1, .long l1), (3, .int l3), (4, .int l4), (5, .int l5)] [] (zs b, I, J) (F_X11_bars_L32 l1 I J kx111 K l3 l4 l5) := by
  intro K
  induction K with
  | zero => intro l3 l4 l5; exact S.none
  | succ K ih =>
    intro l3 l4 l5
    rw [F_X11_bars_L32]
    refine S.iload 18 4 rfl rfl ?_
    refine S.aload_n 19 0 rfl rfl ?_
    refine S.getR 20 rfl fo_X11_60 rfl rfl rfl ?_
    refine S.getI 21 rfl fo_X11_245 rfl rfl ?_
    refine S.icmp_ge 111 22 rfl (by decide) (fun _ => ?_) (fun _ => ?_)
    · refine S.sub (lv' := [(0, .ref 0), (1, .long l1), (3, .int l3), (4, .int l4)]) [0, 1, 2, 3] rfl ?_
      exact hkx111 _ _
    · refine S.lload_n 23 1 rfl rfl ?_
      refine S.aload_n 24 0 rfl rfl ?_
      refine S.getR 25 rfl fo_X11_60 rfl rfl rfl ?_
      refine S.getR 26 rfl fo_X11_246 rfl rfl rfl ?_
      refine S.iload 27 4 rfl rfl ?_
      refine S.lald 28 rfl rfl ?_
      refine S.ldc2 (-1 : Int64) 29 rfl ko_X11_199 ?_
      refine S.lxor 30 rfl ?_
      refine S.land 31 rfl ?_
      refine S.lconst (0 : Int64) 32 rfl (by decide) ?_
      refine S.lcmp 33 rfl ?_
      refine S.jn (fun j => ∀ (y5 : Int32) (y6 : Int32), S (fI (zs b)) mX11_bars (rmd 26 0 0) 0 0 (0, 0) 105 [(0, .ref 0), (1, .long l1), (3, .int y5), (4, .int y6), (5, .int l5)] [] (zs b, I, J) (j y5 y6)) (fun y5 y6 => ?_) (fun j7 hj7 => ?_)
      · refine S.iinc (l5 + 1) [(5, .int (l5 + 1)), (0, .ref 0), (1, .long l1), (3, .int y5), (4, .int y6)] 56 4 rfl rfl rfl (by decide) rfl ?_
        refine S.goto 32 57 rfl (by decide) ?_
        refine S.sub (lv' := [(0, .ref 0), (1, .long l1), (3, .int y5), (4, .int y6), (5, .int (l5 + 1))]) [1, 2, 3, 4, 0] rfl ?_
        exact ih _ _ _
      · refine S.if_ne 105 34 rfl (by decide) (fun _ => ?_) (fun _ => ?_)
        · exact hj7 _ _
        · refine S.aload_n 35 0 rfl rfl ?_
          refine S.getR 36 rfl fo_X11_60 rfl rfl rfl ?_
          refine S.getR 37 rfl fo_X11_246 rfl rfl rfl ?_
          refine S.iload 38 4 rfl rfl ?_
          refine S.lald 39 rfl rfl ?_
          refine S.lload_n 40 1 rfl rfl ?_
          refine S.ldc2 (-1 : Int64) 41 rfl ko_X11_199 ?_
          refine S.lxor 42 rfl ?_
          refine S.land 43 rfl ?_
          refine S.qSI (d := 1) (av := [.long ((J x_table_glow (Int32.toNatClampNeg l5)) &&& (l1 ^^^ (-1 : Int64)))]) (rs := [.long ((J x_table_glow (Int32.toNatClampNeg l5)) &&& (l1 ^^^ (-1 : Int64)))]) 44 rfl co_X11_190 rfl rfl ⟨⟨Nat.le_of_ble_eq_true rfl, Nat.le_of_ble_eq_true rfl⟩, ⟨Nat.le_of_ble_eq_true rfl, Nat.le_of_ble_eq_true rfl⟩, Nat.le_of_ble_eq_true rfl⟩ (cm_J13_bitCount_95d88 (zs b, I, J) ((J x_table_glow (Int32.toNatClampNeg l5)) &&& (l1 ^^^ (-1 : Int64)))) (fun r8 => ?_)
          refine S.istore [(6, .int r8), (0, .ref 0), (1, .long l1), (3, .int l3), (4, .int l4), (5, .int l5)] 45 rfl (by decide) rfl ?_
          refine S.iload 46 4 rfl rfl ?_
          refine S.iconst (-1 : Int32) 47 rfl (by decide) ?_
          refine S.jn (fun j => S (fI (zs b)) mX11_bars (rmd 26 0 0) 0 0 (0, 0) 98 [(0, .ref 0), (1, .long l1), (5, .int l5), (6, .int r8)] [] (zs b, I, J) (j)) ?_ (fun j9 hj9 => ?_)
          · refine S.iload 52 3 rfl rfl ?_
            refine S.istore_n [(3, .int r8), (0, .ref 0), (1, .long l1), (5, .int l5), (6, .int r8)] 53 rfl (by decide) rfl ?_
            refine S.iload 54 3 rfl rfl ?_
            refine S.istore [(4, .int l5), (3, .int r8), (0, .ref 0), (1, .long l1), (5, .int l5), (6, .int r8)] 55 rfl (by decide) rfl ?_
            refine S.sub (lv' := [(0, .ref 0), (1, .long l1), (3, .int r8), (4, .int l5), (5, .int l5)]) [2, 3, 1, 0, 4] rfl ?_
            exact hj7 _ _
          · refine S.icmp_eq 98 48 rfl (by decide) (fun _ => ?_) (fun _ => ?_)
            · refine S.sub (lv' := [(0, .ref 0), (1, .long l1), (5, .int l5), (6, .int r8)]) [1, 2, 5, 0] rfl ?_
              exact hj9
            · refine S.iload 49 0 rfl rfl ?_
              refine S.iload_n 50 3 rfl rfl ?_
              refine S.icmp_ge 105 51 rfl (by decide) (fun _ => ?_) (fun _ => ?_)
              · refine S.sub (lv' := [(0, .ref 0), (1, .long l1), (3, .int l3), (4, .int l4), (5, .int l5)]) [1, 2, 3, 4, 5] rfl ?_
                exact hj7 _ _
              · refine S.sub (lv' := [(0, .ref 0), (1, .long l1), (5, .int l5), (6, .int r8)]) [1, 2, 5, 0] rfl ?_
                exact hj9
def F_X11_bars (l1 : Int64) (I : HI) (J : HJ) : Option (Int32 × HI × HJ) :=
  cp (F_X0_hasLamps l1 I J) fun r1 =>
  if r1 = 0 then
    some ((-1 : Int32), I, J)
  else
    cl (F_X11_openTable I J) fun r2 I3 J4 =>
    if r2 = 0 then
      some ((-3 : Int32), I3, J4)
    else
      F_X11_bars_L32 l1 I3 J4 (fun (y10 : Int32) (y11 : Int32) =>
      if y11 = (-1 : Int32) then
        some (y10, I3, J4)
      else
        cl (F_X10_clear I3 J4) fun _ I12 J13 =>
        cl (F_X10_add (Int32.toInt64 y11) I12 J13) fun _ I14 J15 =>
        lb (fun (y16 : Int64) =>
        cl (F_X10_add y16 I14 J15) fun _ I18 J19 =>
        some (y10, I18, J19)) fun j17 =>
        if y10 = 0 then
          j17 (-1 : Int64)
        else
          bx y11 2187 <|
          cp (F_J13_numberOfTrailingZeros_95d88 ((J15 x_table_glow (Int32.toNatClampNeg y11)) &&& (l1 ^^^ (-1 : Int64)))) fun r20 =>
          j17 (Int32.toInt64 r20)) bgf (-2 : Int32) (-1 : Int32) (0 : Int32)
set_option maxRecDepth 100000 in
theorem cm_X11_bars (b : Bool) (l1 : Int64) (I : HI) (J : HJ) : CM mX11_bars 26 0 0 [.ref 0, .long l1] (zs b, I, J) (fI (zs b)) (F_X11_bars l1 I J) := by
  refine S.of okX11_bars pn_X11 (Nat.le_of_ble_eq_true rfl) ?_
  refine S.sub (lv' := [(0, .ref 0), (1, .long l1)]) [0, 1] rfl ?_
  unfold F_X11_bars
  refine S.aload_n 0 0 rfl rfl ?_
  refine S.getR 1 rfl fo_X11_10 rfl rfl rfl ?_
  refine S.lload_n 2 1 rfl rfl ?_
  refine S.qVI (d := 1) (av := [.long l1]) (rs := [.long l1]) (b := 1) 3 rfl co_X11_237 rfl rfl rfl rfl rfl ⟨⟨Nat.le_of_ble_eq_true rfl, Nat.le_of_ble_eq_true rfl⟩, ⟨Nat.le_of_ble_eq_true rfl, Nat.le_of_ble_eq_true rfl⟩, Nat.le_of_ble_eq_true rfl⟩ (cm_X0_hasLamps b l1 I J) (fun r1 => ?_)
  refine S.if_ne 13 4 rfl (by decide) (fun _ => ?_) (fun _ => ?_)
  · refine S.aload_n 7 0 rfl rfl ?_
    refine S.cVI (d := 25) (av := []) (rs := []) (b := 0) 8 rfl co_X11_241 rfl rfl rfl rfl rfl ⟨⟨Nat.le_of_ble_eq_true rfl, Nat.le_of_ble_eq_true rfl⟩, ⟨Nat.le_of_ble_eq_true rfl, Nat.le_of_ble_eq_true rfl⟩, Nat.le_of_ble_eq_true rfl⟩ (cm_X11_openTable b I J) (fun r2 I3 J4 => ?_)
    refine S.if_ne 23 9 rfl (by decide) (fun _ => ?_) (fun _ => ?_)
    · refine S.bipush (-2 : Int32) 12 rfl (by decide) ?_
      refine S.istore_n [(3, .int (-2 : Int32)), (0, .ref 0), (1, .long l1)] 13 rfl (by decide) rfl ?_
      refine S.iconst (-1 : Int32) 14 rfl (by decide) ?_
      refine S.istore [(4, .int (-1 : Int32)), (3, .int (-2 : Int32)), (0, .ref 0), (1, .long l1)] 15 rfl (by decide) rfl ?_
      refine S.iconst (0 : Int32) 16 rfl (by decide) ?_
      refine S.istore [(5, .int (0 : Int32)), (4, .int (-1 : Int32)), (3, .int (-2 : Int32)), (0, .ref 0), (1, .long l1)] 17 rfl (by decide) rfl ?_
      refine S.sub (lv' := [(0, .ref 0), (1, .long l1), (3, .int (-2 : Int32)), (4, .int (-1 : Int32)), (5, .int (0 : Int32))]) [3, 4, 2, 1, 0] rfl ?_
      refine s_X11_bars_L32 b _ _ _ _ (fun y10 y11 => ?_) bgf _ _ _
      refine S.iload 58 3 rfl rfl ?_
      refine S.iconst (-1 : Int32) 59 rfl (by decide) ?_
      refine S.icmp_eq 171 60 rfl (by decide) (fun _ => ?_) (fun _ => ?_)
      · refine S.iload_n 87 2 rfl rfl ?_
        exact S.iret 88 rfl rfl rfl (Nat.le_refl _) (Nat.le_refl _) rfl
      · refine S.aload_n 61 0 rfl rfl ?_
        refine S.getR 62 rfl fo_X11_35 rfl rfl rfl ?_
        refine S.cVV (d := 1) (av := []) (rs := []) (b := 15) 63 rfl co_X11_205 rfl rfl rfl rfl rfl ⟨⟨Nat.le_of_ble_eq_true rfl, Nat.le_of_ble_eq_true rfl⟩, ⟨Nat.le_of_ble_eq_true rfl, Nat.le_of_ble_eq_true rfl⟩, Nat.le_of_ble_eq_true rfl⟩ (cm_X10_clear b I3 J4) (fun _ I12 J13 => ?_)
        refine S.aload_n 64 0 rfl rfl ?_
        refine S.getR 65 rfl fo_X11_35 rfl rfl rfl ?_
        refine S.iload 66 3 rfl rfl ?_
        refine S.i2l 67 rfl ?_
        refine S.cVV (d := 1) (av := [.long (Int32.toInt64 y11)]) (rs := [.long (Int32.toInt64 y11)]) (b := 15) 68 rfl co_X11_211 rfl rfl rfl rfl rfl ⟨⟨Nat.le_of_ble_eq_true rfl, Nat.le_of_ble_eq_true rfl⟩, ⟨Nat.le_of_ble_eq_true rfl, Nat.le_of_ble_eq_true rfl⟩, Nat.le_of_ble_eq_true rfl⟩ (cm_X10_add b (Int32.toInt64 y11) I12 J13) (fun _ I14 J15 => ?_)
        refine S.aload_n 69 0 rfl rfl ?_
        refine S.getR 70 rfl fo_X11_35 rfl rfl rfl ?_
        refine S.iload_n 71 2 rfl rfl ?_
        refine S.jn (fun j => ∀ (y16 : Int64), S (fI (zs b)) mX11_bars (rmd 26 0 0) 0 0 (0, 0) 168 [(3, .int y10)] [.long y16, .ref 15] (zs b, I14, J15) (j y16)) (fun y16 => ?_) (fun j17 hj17 => ?_)
        · refine S.cVV (d := 1) (av := [.long y16]) (rs := [.long y16]) (b := 15) 86 rfl co_X11_211 rfl rfl rfl rfl rfl ⟨⟨Nat.le_of_ble_eq_true rfl, Nat.le_of_ble_eq_true rfl⟩, ⟨Nat.le_of_ble_eq_true rfl, Nat.le_of_ble_eq_true rfl⟩, Nat.le_of_ble_eq_true rfl⟩ (cm_X10_add b y16 I14 J15) (fun _ I18 J19 => ?_)
          refine S.iload_n 87 0 rfl rfl ?_
          exact S.iret 88 rfl rfl rfl (Nat.le_refl _) (Nat.le_refl _) rfl
        · refine S.if_ne 148 72 rfl (by decide) (fun _ => ?_) (fun _ => ?_)
          · refine S.aload_n 75 0 rfl rfl ?_
            refine S.getR 76 rfl fo_X11_60 rfl rfl rfl ?_
            refine S.getR 77 rfl fo_X11_246 rfl rfl rfl ?_
            refine S.iload 78 3 rfl rfl ?_
            refine S.lald 79 rfl rfl ?_
            refine S.lload_n 80 1 rfl rfl ?_
            refine S.ldc2 (-1 : Int64) 81 rfl ko_X11_199 ?_
            refine S.lxor 82 rfl ?_
            refine S.land 83 rfl ?_
            refine S.qSI (d := 2) (av := [.long ((J15 x_table_glow (Int32.toNatClampNeg y11)) &&& (l1 ^^^ (-1 : Int64)))]) (rs := [.long ((J15 x_table_glow (Int32.toNatClampNeg y11)) &&& (l1 ^^^ (-1 : Int64)))]) 84 rfl co_X11_234 rfl rfl ⟨⟨Nat.le_of_ble_eq_true rfl, Nat.le_of_ble_eq_true rfl⟩, ⟨Nat.le_of_ble_eq_true rfl, Nat.le_of_ble_eq_true rfl⟩, Nat.le_of_ble_eq_true rfl⟩ (cm_J13_numberOfTrailingZeros_95d88 (zs b, I14, J15) ((J15 x_table_glow (Int32.toNatClampNeg y11)) &&& (l1 ^^^ (-1 : Int64)))) (fun r20 => ?_)
            refine S.i2l 85 rfl ?_
            refine S.sub (lv' := [(3, .int y10)]) [2] rfl ?_
            exact hj17 _
          · refine S.ldc2 (-1 : Int64) 73 rfl ko_X11_199 ?_
            refine S.goto 168 74 rfl (by decide) ?_
            refine S.sub (lv' := [(3, .int y10)]) [2] rfl ?_
            exact hj17 _
    · refine S.bipush (-3 : Int32) 10 rfl (by decide) ?_
      exact S.iret 11 rfl rfl rfl (Nat.le_refl _) (Nat.le_refl _) rfl
  · refine S.iconst (-1 : Int32) 5 rfl (by decide) ?_
    exact S.iret 6 rfl rfl rfl (Nat.le_refl _) (Nat.le_refl _) rfl
def F_X11_most_L16 (I : HI) (J : HJ) (kx70 : Int32 → Int32 → Option (Int32 × HI × HJ)) : Nat → Int32 → Int32 → Int32 → Option (Int32 × HI × HJ)
  | 0, _, _, _ => none
  | K+1, l1, l2, l3 =>
    if (I x_table f_Table_size) ≤ l3 then
      kx70 l1 l2
    else
      bx l3 2187 <|
      cp (F_J13_bitCount_95d88 (J x_table_glow (Int32.toNatClampNeg l3))) fun r4 =>
      bx l3 2187 <|
      lb (fun (y5 : Int32) (y6 : Int32) =>
      F_X11_most_L16 I J kx70 K y5 y6 (l3 + 1)) fun j7 =>
      if (I x_table_clean (Int32.toNatClampNeg l3)) = 0 then
        j7 l1 l2
      else
        if r4 ≤ l1 then
          j7 l1 l2
        else
          j7 r4 l3
set_option maxRecDepth 100000 in
theorem s_X11_most_L16 (b : Bool) (I : HI) (J : HJ) (kx70 : Int32 → Int32 → Option (Int32 × HI × HJ)) (hkx70 : ∀ (y1 : Int32) (y2 : Int32), S (fI (zs b)) mX11_most (rmd 26 0 0) 0 0 (0, 0) 70 [(0, .ref 0), (1, .int y1), (2, .int y2)] [] (zs b, I, J) (kx70 y1 y2)) : ∀ (K : Nat) (l1 : Int32) (l2 : Int32) (l3 : Int32), S (fI (zs b)) mX11_most (rmd 26 0 0) 0 0 (0, 0) 16 [(0, .ref 0), (1, .int l1), (2, .int l2), (3, .int l3)] [] (zs b, I, J) (F_X11_most_L16 I J kx70 K l1 l2 l3) := by
  intro K
  induction K with
  | zero => intro l1 l2 l3; exact S.none
  | succ K ih =>
    intro l1 l2 l3
    rw [F_X11_most_L16]
    refine S.iload_n 11 3 rfl rfl ?_
    refine S.aload_n 12 0 rfl rfl ?_
    refine S.getR 13 rfl fo_X11_60 rfl rfl rfl ?_
    refine S.getI 14 rfl fo_X11_245 rfl rfl ?_
    refine S.icmp_ge 70 15 rfl (by decide) (fun _ => ?_) (fun _ => ?_)
    · refine S.sub (lv' := [(0, .ref 0), (1, .int l1), (2, .int l2)]) [0, 1, 2] rfl ?_
      exact hkx70 _ _
    · refine S.aload_n 16 0 rfl rfl ?_
      refine S.getR 17 rfl fo_X11_60 rfl rfl rfl ?_
      refine S.getR 18 rfl fo_X11_246 rfl rfl rfl ?_
      refine S.iload_n 19 3 rfl rfl ?_
      refine S.lald 20 rfl rfl ?_
      refine S.qSI (d := 1) (av := [.long (J x_table_glow (Int32.toNatClampNeg l3))]) (rs := [.long (J x_table_glow (Int32.toNatClampNeg l3))]) 21 rfl co_X11_190 rfl rfl ⟨⟨Nat.le_of_ble_eq_true rfl, Nat.le_of_ble_eq_true rfl⟩, ⟨Nat.le_of_ble_eq_true rfl, Nat.le_of_ble_eq_true rfl⟩, Nat.le_of_ble_eq_true rfl⟩ (cm_J13_bitCount_95d88 (zs b, I, J) (J x_table_glow (Int32.toNatClampNeg l3))) (fun r4 => ?_)
      refine S.istore [(4, .int r4), (0, .ref 0), (1, .int l1), (2, .int l2), (3, .int l3)] 22 rfl (by decide) rfl ?_
      refine S.aload_n 23 1 rfl rfl ?_
      refine S.getR 24 rfl fo_X11_60 rfl rfl rfl ?_
      refine S.getR 25 rfl fo_X11_253 rfl rfl rfl ?_
      refine S.iload_n 26 4 rfl rfl ?_
      refine S.zald 27 rfl rfl ?_
      refine S.jn (fun j => ∀ (y5 : Int32) (y6 : Int32), S (fI (zs b)) mX11_most (rmd 26 0 0) 0 0 (0, 0) 64 [(0, .ref 0), (1, .int y5), (2, .int y6), (3, .int l3)] [] (zs b, I, J) (j y5 y6)) (fun y5 y6 => ?_) (fun j7 hj7 => ?_)
      · refine S.iinc (l3 + 1) [(3, .int (l3 + 1)), (0, .ref 0), (1, .int y5), (2, .int y6)] 36 3 rfl rfl rfl (by decide) rfl ?_
        refine S.goto 16 37 rfl (by decide) ?_
        refine S.sub (lv' := [(0, .ref 0), (1, .int y5), (2, .int y6), (3, .int (l3 + 1))]) [1, 2, 3, 0] rfl ?_
        exact ih _ _ _
      · refine S.if_eq 64 28 rfl (by decide) (fun _ => ?_) (fun _ => ?_)
        · refine S.sub (lv' := [(0, .ref 0), (1, .int l1), (2, .int l2), (3, .int l3)]) [1, 2, 3, 4] rfl ?_
          exact hj7 _ _
        · refine S.iload 29 0 rfl rfl ?_
          refine S.iload_n 30 2 rfl rfl ?_
          refine S.icmp_le 64 31 rfl (by decide) (fun _ => ?_) (fun _ => ?_)
          · refine S.sub (lv' := [(0, .ref 0), (1, .int l1), (2, .int l2), (3, .int l3)]) [1, 2, 3, 4] rfl ?_
            exact hj7 _ _
          · refine S.iload 32 0 rfl rfl ?_
            refine S.istore_n [(1, .int r4), (4, .int r4), (0, .ref 0), (2, .int l2), (3, .int l3)] 33 rfl (by decide) rfl ?_
            refine S.iload_n 34 4 rfl rfl ?_
            refine S.istore_n [(2, .int l3), (1, .int r4), (4, .int r4), (0, .ref 0), (3, .int l3)] 35 rfl (by decide) rfl ?_
            refine S.sub (lv' := [(0, .ref 0), (1, .int r4), (2, .int l3), (3, .int l3)]) [3, 1, 0, 4] rfl ?_
            exact hj7 _ _
def F_X11_most  (I : HI) (J : HJ) : Option (Int32 × HI × HJ) :=
  cl (F_X11_openTable I J) fun r1 I2 J3 =>
  if r1 = 0 then
    some ((-3 : Int32), I2, J3)
  else
    F_X11_most_L16 I2 J3 (fun (y8 : Int32) (y9 : Int32) =>
    cl (F_X10_clear I2 J3) fun _ I10 J11 =>
    cl (F_X10_add (Int32.toInt64 y9) I10 J11) fun _ I12 J13 =>
    some (y8, I12, J13)) bgf (0 : Int32) (0 : Int32) (0 : Int32)
set_option maxRecDepth 100000 in
theorem cm_X11_most (b : Bool)  (I : HI) (J : HJ) : CM mX11_most 26 0 0 [.ref 0] (zs b, I, J) (fI (zs b)) (F_X11_most  I J) := by
  refine S.of okX11_most pn_X11 (Nat.le_of_ble_eq_true rfl) ?_
  refine S.sub (lv' := [(0, .ref 0)]) [0] rfl ?_
  unfold F_X11_most
  refine S.aload_n 0 0 rfl rfl ?_
  refine S.cVI (d := 25) (av := []) (rs := []) (b := 0) 1 rfl co_X11_241 rfl rfl rfl rfl rfl ⟨⟨Nat.le_of_ble_eq_true rfl, Nat.le_of_ble_eq_true rfl⟩, ⟨Nat.le_of_ble_eq_true rfl, Nat.le_of_ble_eq_true rfl⟩, Nat.le_of_ble_eq_true rfl⟩ (cm_X11_openTable b I J) (fun r1 I2 J3 => ?_)
  refine S.if_ne 10 2 rfl (by decide) (fun _ => ?_) (fun _ => ?_)
  · refine S.iconst (0 : Int32) 5 rfl (by decide) ?_
    refine S.istore_n [(1, .int (0 : Int32)), (0, .ref 0)] 6 rfl (by decide) rfl ?_
    refine S.iconst (0 : Int32) 7 rfl (by decide) ?_
    refine S.istore_n [(2, .int (0 : Int32)), (1, .int (0 : Int32)), (0, .ref 0)] 8 rfl (by decide) rfl ?_
    refine S.iconst (0 : Int32) 9 rfl (by decide) ?_
    refine S.istore_n [(3, .int (0 : Int32)), (2, .int (0 : Int32)), (1, .int (0 : Int32)), (0, .ref 0)] 10 rfl (by decide) rfl ?_
    refine S.sub (lv' := [(0, .ref 0), (1, .int (0 : Int32)), (2, .int (0 : Int32)), (3, .int (0 : Int32))]) [3, 2, 1, 0] rfl ?_
    refine s_X11_most_L16 b _ _ _ (fun y8 y9 => ?_) bgf _ _ _
    refine S.aload_n 38 0 rfl rfl ?_
    refine S.getR 39 rfl fo_X11_35 rfl rfl rfl ?_
    refine S.cVV (d := 1) (av := []) (rs := []) (b := 15) 40 rfl co_X11_205 rfl rfl rfl rfl rfl ⟨⟨Nat.le_of_ble_eq_true rfl, Nat.le_of_ble_eq_true rfl⟩, ⟨Nat.le_of_ble_eq_true rfl, Nat.le_of_ble_eq_true rfl⟩, Nat.le_of_ble_eq_true rfl⟩ (cm_X10_clear b I2 J3) (fun _ I10 J11 => ?_)
    refine S.aload_n 41 0 rfl rfl ?_
    refine S.getR 42 rfl fo_X11_35 rfl rfl rfl ?_
    refine S.iload_n 43 2 rfl rfl ?_
    refine S.i2l 44 rfl ?_
    refine S.cVV (d := 1) (av := [.long (Int32.toInt64 y9)]) (rs := [.long (Int32.toInt64 y9)]) (b := 15) 45 rfl co_X11_211 rfl rfl rfl rfl rfl ⟨⟨Nat.le_of_ble_eq_true rfl, Nat.le_of_ble_eq_true rfl⟩, ⟨Nat.le_of_ble_eq_true rfl, Nat.le_of_ble_eq_true rfl⟩, Nat.le_of_ble_eq_true rfl⟩ (cm_X10_add b (Int32.toInt64 y9) I10 J11) (fun _ I12 J13 => ?_)
    refine S.iload_n 46 1 rfl rfl ?_
    exact S.iret 47 rfl rfl rfl (Nat.le_refl _) (Nat.le_refl _) rfl
  · refine S.bipush (-3 : Int32) 3 rfl (by decide) ?_
    exact S.iret 4 rfl rfl rfl (Nat.le_refl _) (Nat.le_refl _) rfl
def F_X11_sets  (I : HI) (J : HJ) : Option (Int32 × HI × HJ) :=
  cl (F_X11_openTable I J) fun r1 I2 J3 =>
  if r1 = 0 then
    some ((-3 : Int32), I2, J3)
  else
    cl (F_J7_fill_53178_35 (0 : Int32) I2 J3) fun _ I4 J5 =>
    cl (F_X8_newSets (1 : Int32) I4 J5) fun r6 I7 J8 =>
    cl (F_X8_newSets (0 : Int32) I7 J8) fun r9 I10 J11 =>
    cl (F_X10_clear I10 J11) fun _ I12 J13 =>
    cl (F_X10_add (Int32.toInt64 r6) I12 J13) fun _ I14 J15 =>
    some ((r6 + r9), I14, J15)
set_option maxRecDepth 100000 in
theorem cm_X11_sets (b : Bool)  (I : HI) (J : HJ) : CM mX11_sets 26 0 0 [.ref 0] (zs b, I, J) (fI (zs b)) (F_X11_sets  I J) := by
  refine S.of okX11_sets pn_X11 (Nat.le_of_ble_eq_true rfl) ?_
  refine S.sub (lv' := [(0, .ref 0)]) [0] rfl ?_
  unfold F_X11_sets
  refine S.aload_n 0 0 rfl rfl ?_
  refine S.cVI (d := 25) (av := []) (rs := []) (b := 0) 1 rfl co_X11_241 rfl rfl rfl rfl rfl ⟨⟨Nat.le_of_ble_eq_true rfl, Nat.le_of_ble_eq_true rfl⟩, ⟨Nat.le_of_ble_eq_true rfl, Nat.le_of_ble_eq_true rfl⟩, Nat.le_of_ble_eq_true rfl⟩ (cm_X11_openTable b I J) (fun r1 I2 J3 => ?_)
  refine S.if_ne 10 2 rfl (by decide) (fun _ => ?_) (fun _ => ?_)
  · refine S.aload_n 5 0 rfl rfl ?_
    refine S.getR 6 rfl fo_X11_60 rfl rfl rfl ?_
    refine S.getR 7 rfl fo_X11_257 rfl rfl rfl ?_
    refine S.iconst (0 : Int32) 8 rfl (by decide) ?_
    refine S.cSV (d := 1) (av := [.ref 35, .int (0 : Int32)]) (rs := [.int (0 : Int32), .ref 35]) 9 rfl co_X11_260 rfl rfl ⟨⟨Nat.le_of_ble_eq_true rfl, Nat.le_of_ble_eq_true rfl⟩, ⟨Nat.le_of_ble_eq_true rfl, Nat.le_of_ble_eq_true rfl⟩, Nat.le_of_ble_eq_true rfl⟩ (cm_J7_fill_53178_35 b (0 : Int32) I2 J3) (fun _ I4 J5 => ?_)
    refine S.aload_n 10 0 rfl rfl ?_
    refine S.getR 11 rfl fo_X11_60 rfl rfl rfl ?_
    refine S.iconst (1 : Int32) 12 rfl (by decide) ?_
    refine S.cVI (d := 2) (av := [.int (1 : Int32)]) (rs := [.int (1 : Int32)]) (b := 30) 13 rfl co_X11_266 rfl rfl rfl rfl rfl ⟨⟨Nat.le_of_ble_eq_true rfl, Nat.le_of_ble_eq_true rfl⟩, ⟨Nat.le_of_ble_eq_true rfl, Nat.le_of_ble_eq_true rfl⟩, Nat.le_of_ble_eq_true rfl⟩ (cm_X8_newSets b (1 : Int32) I4 J5) (fun r6 I7 J8 => ?_)
    refine S.istore_n [(1, .int r6), (0, .ref 0)] 14 rfl (by decide) rfl ?_
    refine S.aload_n 15 1 rfl rfl ?_
    refine S.getR 16 rfl fo_X11_60 rfl rfl rfl ?_
    refine S.iconst (0 : Int32) 17 rfl (by decide) ?_
    refine S.cVI (d := 2) (av := [.int (0 : Int32)]) (rs := [.int (0 : Int32)]) (b := 30) 18 rfl co_X11_266 rfl rfl rfl rfl rfl ⟨⟨Nat.le_of_ble_eq_true rfl, Nat.le_of_ble_eq_true rfl⟩, ⟨Nat.le_of_ble_eq_true rfl, Nat.le_of_ble_eq_true rfl⟩, Nat.le_of_ble_eq_true rfl⟩ (cm_X8_newSets b (0 : Int32) I7 J8) (fun r9 I10 J11 => ?_)
    refine S.istore_n [(2, .int r9), (1, .int r6), (0, .ref 0)] 19 rfl (by decide) rfl ?_
    refine S.aload_n 20 2 rfl rfl ?_
    refine S.getR 21 rfl fo_X11_35 rfl rfl rfl ?_
    refine S.cVV (d := 1) (av := []) (rs := []) (b := 15) 22 rfl co_X11_205 rfl rfl rfl rfl rfl ⟨⟨Nat.le_of_ble_eq_true rfl, Nat.le_of_ble_eq_true rfl⟩, ⟨Nat.le_of_ble_eq_true rfl, Nat.le_of_ble_eq_true rfl⟩, Nat.le_of_ble_eq_true rfl⟩ (cm_X10_clear b I10 J11) (fun _ I12 J13 => ?_)
    refine S.aload_n 23 2 rfl rfl ?_
    refine S.getR 24 rfl fo_X11_35 rfl rfl rfl ?_
    refine S.iload_n 25 1 rfl rfl ?_
    refine S.i2l 26 rfl ?_
    refine S.cVV (d := 1) (av := [.long (Int32.toInt64 r6)]) (rs := [.long (Int32.toInt64 r6)]) (b := 15) 27 rfl co_X11_211 rfl rfl rfl rfl rfl ⟨⟨Nat.le_of_ble_eq_true rfl, Nat.le_of_ble_eq_true rfl⟩, ⟨Nat.le_of_ble_eq_true rfl, Nat.le_of_ble_eq_true rfl⟩, Nat.le_of_ble_eq_true rfl⟩ (cm_X10_add b (Int32.toInt64 r6) I12 J13) (fun _ I14 J15 => ?_)
    refine S.iload_n 28 1 rfl rfl ?_
    refine S.iload_n 29 0 rfl rfl ?_
    refine S.iadd 30 rfl ?_
    exact S.iret 31 rfl rfl rfl (Nat.le_refl _) (Nat.le_refl _) rfl
  · refine S.bipush (-3 : Int32) 3 rfl (by decide) ?_
    exact S.iret 4 rfl rfl rfl (Nat.le_refl _) (Nat.le_refl _) rfl
def F_X11_fits_L35 (l3 : Int64) (I : HI) (J : HJ) : Nat → Int32 → Option (Int32 × HI × HJ)
  | 0, _ => none
  | K+1, l5 =>
    if (I x_table f_Table_size) ≤ l5 then
      some ((0 : Int32), I, J)
    else
      bx l5 2187 <|
      lb (
      F_X11_fits_L35 l3 I J K (l5 + 1)) fun j7 =>
      if (I x_table_clean (Int32.toNatClampNeg l5)) = 0 then
        j7
      else
        bx l5 2187 <|
        if (lg_cmp (l3 &&& ((J x_table_glow (Int32.toNatClampNeg l5)) ^^^ (-1 : Int64))) (0 : Int64)) = 0 then
          some ((1 : Int32), I, J)
        else
          j7
set_option maxRecDepth 100000 in
theorem s_X11_fits_L35 (b : Bool) (l3 : Int64) (I : HI) (J : HJ) : ∀ (K : Nat) (l5 : Int32), S (fI (zs b)) mX11_fits (rmd 26 0 0) 0 0 (0, 0) 35 [(0, .ref 0), (3, .long l3), (5, .int l5)] [] (zs b, I, J) (F_X11_fits_L35 l3 I J K l5) := by
  intro K
  induction K with
  | zero => intro l5; exact S.none
  | succ K ih =>
    intro l5
    rw [F_X11_fits_L35]
    refine S.iload 23 2 rfl rfl ?_
    refine S.aload_n 24 0 rfl rfl ?_
    refine S.getR 25 rfl fo_X11_60 rfl rfl rfl ?_
    refine S.getI 26 rfl fo_X11_245 rfl rfl ?_
    refine S.icmp_ge 89 27 rfl (by decide) (fun _ => ?_) (fun _ => ?_)
    · refine S.iconst (0 : Int32) 50 rfl (by decide) ?_
      exact S.iret 51 rfl rfl rfl (Nat.le_refl _) (Nat.le_refl _) rfl
    · refine S.aload_n 28 0 rfl rfl ?_
      refine S.getR 29 rfl fo_X11_60 rfl rfl rfl ?_
      refine S.getR 30 rfl fo_X11_253 rfl rfl rfl ?_
      refine S.iload 31 2 rfl rfl ?_
      refine S.zald 32 rfl rfl ?_
      refine S.jn (fun j => S (fI (zs b)) mX11_fits (rmd 26 0 0) 0 0 (0, 0) 83 [(0, .ref 0), (3, .long l3), (5, .int l5)] [] (zs b, I, J) (j)) ?_ (fun j7 hj7 => ?_)
      · refine S.iinc (l5 + 1) [(5, .int (l5 + 1)), (0, .ref 0), (3, .long l3)] 48 2 rfl rfl rfl (by decide) rfl ?_
        refine S.goto 35 49 rfl (by decide) ?_
        refine S.sub (lv' := [(0, .ref 0), (3, .long l3), (5, .int (l5 + 1))]) [1, 2, 0] rfl ?_
        exact ih _
      · refine S.if_eq 83 33 rfl (by decide) (fun _ => ?_) (fun _ => ?_)
        · exact hj7
        · refine S.lload_n 34 1 rfl rfl ?_
          refine S.aload_n 35 0 rfl rfl ?_
          refine S.getR 36 rfl fo_X11_60 rfl rfl rfl ?_
          refine S.getR 37 rfl fo_X11_246 rfl rfl rfl ?_
          refine S.iload 38 2 rfl rfl ?_
          refine S.lald 39 rfl rfl ?_
          refine S.ldc2 (-1 : Int64) 40 rfl ko_X11_199 ?_
          refine S.lxor 41 rfl ?_
          refine S.land 42 rfl ?_
          refine S.lconst (0 : Int64) 43 rfl (by decide) ?_
          refine S.lcmp 44 rfl ?_
          refine S.if_ne 83 45 rfl (by decide) (fun _ => ?_) (fun _ => ?_)
          · exact hj7
          · refine S.iconst (1 : Int32) 46 rfl (by decide) ?_
            exact S.iret 47 rfl rfl rfl (Nat.le_refl _) (Nat.le_refl _) rfl
def F_X11_fits (l1 : Int32) (l2 : Int32) (I : HI) (J : HJ) : Option (Int32 × HI × HJ) :=
  cp (F_X0_hasPair l1 l2 I J) fun r2 =>
  if r2 = 0 then
    some ((-1 : Int32), I, J)
  else
    cl (F_X11_openTable I J) fun r3 I4 J5 =>
    if r3 = 0 then
      some ((-3 : Int32), I4, J5)
    else
      lb (((olshl (1 : Int64) l1) ||| (olshl (1 : Int64) l2))) fun x6 =>
      F_X11_fits_L35 x6 I4 J5 bgf (0 : Int32)
set_option maxRecDepth 100000 in
theorem cm_X11_fits (b : Bool) (l1 : Int32) (l2 : Int32) (I : HI) (J : HJ) : CM mX11_fits 26 0 0 [.ref 0, .int l1, .int l2] (zs b, I, J) (fI (zs b)) (F_X11_fits l1 l2 I J) := by
  refine S.of okX11_fits pn_X11 (Nat.le_of_ble_eq_true rfl) ?_
  refine S.sub (lv' := [(0, .ref 0), (1, .int l1), (2, .int l2)]) [0, 1, 2] rfl ?_
  unfold F_X11_fits
  refine S.aload_n 0 0 rfl rfl ?_
  refine S.getR 1 rfl fo_X11_10 rfl rfl rfl ?_
  refine S.iload_n 2 1 rfl rfl ?_
  refine S.iload_n 3 2 rfl rfl ?_
  refine S.qVI (d := 2) (av := [.int l1, .int l2]) (rs := [.int l2, .int l1]) (b := 1) 4 rfl co_X11_169 rfl rfl rfl rfl rfl ⟨⟨Nat.le_of_ble_eq_true rfl, Nat.le_of_ble_eq_true rfl⟩, ⟨Nat.le_of_ble_eq_true rfl, Nat.le_of_ble_eq_true rfl⟩, Nat.le_of_ble_eq_true rfl⟩ (cm_X0_hasPair b l1 l2 I J) (fun r2 => ?_)
  refine S.if_ne 14 5 rfl (by decide) (fun _ => ?_) (fun _ => ?_)
  · refine S.aload_n 8 0 rfl rfl ?_
    refine S.cVI (d := 25) (av := []) (rs := []) (b := 0) 9 rfl co_X11_241 rfl rfl rfl rfl rfl ⟨⟨Nat.le_of_ble_eq_true rfl, Nat.le_of_ble_eq_true rfl⟩, ⟨Nat.le_of_ble_eq_true rfl, Nat.le_of_ble_eq_true rfl⟩, Nat.le_of_ble_eq_true rfl⟩ (cm_X11_openTable b I J) (fun r3 I4 J5 => ?_)
    refine S.if_ne 24 10 rfl (by decide) (fun _ => ?_) (fun _ => ?_)
    · refine S.lconst (1 : Int64) 13 rfl (by decide) ?_
      refine S.iload_n 14 1 rfl rfl ?_
      refine S.lshl 15 rfl ?_
      refine S.lconst (1 : Int64) 16 rfl (by decide) ?_
      refine S.iload_n 17 2 rfl rfl ?_
      refine S.lshl 18 rfl ?_
      refine S.lor 19 rfl ?_
      refine S.nml (fun x6 => ?_)
      refine S.lstore_n [(3, .long x6), (0, .ref 0), (1, .int l1), (2, .int l2)] 20 rfl (by decide) rfl ?_
      refine S.iconst (0 : Int32) 21 rfl (by decide) ?_
      refine S.istore [(5, .int (0 : Int32)), (3, .long x6), (0, .ref 0), (1, .int l1), (2, .int l2)] 22 rfl (by decide) rfl ?_
      refine S.sub (lv' := [(0, .ref 0), (3, .long x6), (5, .int (0 : Int32))]) [2, 1, 0] rfl ?_
      refine s_X11_fits_L35 b _ _ _ bgf _
    · refine S.bipush (-3 : Int32) 11 rfl (by decide) ?_
      exact S.iret 12 rfl rfl rfl (Nat.le_refl _) (Nat.le_refl _) rfl
  · refine S.iconst (-1 : Int32) 6 rfl (by decide) ?_
    exact S.iret 7 rfl rfl rfl (Nat.le_refl _) (Nat.le_refl _) rfl
def F_X11_alone_L15 (I : HI) (J : HJ) : Nat → Int64 → Int32 → Option (Int64 × HI × HJ)
  | 0, _, _ => none
  | K+1, l1, l3 =>
    if (I x_table f_Table_size) ≤ l3 then
      some (l1, I, J)
    else
      bx l3 2187 <|
      lb ((J x_table_glow (Int32.toNatClampNeg l3))) fun x6 =>
      lb (fun (y7 : Int64) =>
      F_X11_alone_L15 I J K y7 (l3 + 1)) fun j8 =>
      if (lg_cmp (x6 &&& (x6 - (1 : Int64))) (0 : Int64)) = 0 then
        lb ((l1 ||| x6)) fun x9 =>
        j8 x9
      else
        j8 l1
set_option maxRecDepth 100000 in
theorem s_X11_alone_L15 (b : Bool) (I : HI) (J : HJ) : ∀ (K : Nat) (l1 : Int64) (l3 : Int32), S (fL (zs b)) mX11_alone (rmd 26 0 0) 0 0 (0, 0) 15 [(0, .ref 0), (1, .long l1), (3, .int l3)] [] (zs b, I, J) (F_X11_alone_L15 I J K l1 l3) := by
  intro K
  induction K with
  | zero => intro l1 l3; exact S.none
  | succ K ih =>
    intro l1 l3
    rw [F_X11_alone_L15]
    refine S.iload_n 9 2 rfl rfl ?_
    refine S.aload_n 10 0 rfl rfl ?_
    refine S.getR 11 rfl fo_X11_60 rfl rfl rfl ?_
    refine S.getI 12 rfl fo_X11_245 rfl rfl ?_
    refine S.icmp_ge 60 13 rfl (by decide) (fun _ => ?_) (fun _ => ?_)
    · refine S.lload_n 34 1 rfl rfl ?_
      exact S.lret 35 rfl rfl (Nat.le_refl _) (Nat.le_refl _) rfl
    · refine S.aload_n 14 0 rfl rfl ?_
      refine S.getR 15 rfl fo_X11_60 rfl rfl rfl ?_
      refine S.getR 16 rfl fo_X11_246 rfl rfl rfl ?_
      refine S.iload_n 17 2 rfl rfl ?_
      refine S.lald 18 rfl rfl ?_
      refine S.nml (fun x6 => ?_)
      refine S.lstore [(4, .long x6), (0, .ref 0), (1, .long l1), (3, .int l3)] 19 rfl (by decide) rfl ?_
      refine S.lload 20 0 rfl rfl ?_
      refine S.lload 21 0 rfl rfl ?_
      refine S.lconst (1 : Int64) 22 rfl (by decide) ?_
      refine S.lsub 23 rfl ?_
      refine S.land 24 rfl ?_
      refine S.lconst (0 : Int64) 25 rfl (by decide) ?_
      refine S.lcmp 26 rfl ?_
      refine S.jn (fun j => ∀ (y7 : Int64), S (fL (zs b)) mX11_alone (rmd 26 0 0) 0 0 (0, 0) 54 [(0, .ref 0), (1, .long y7), (3, .int l3)] [] (zs b, I, J) (j y7)) (fun y7 => ?_) (fun j8 hj8 => ?_)
      · refine S.iinc (l3 + 1) [(3, .int (l3 + 1)), (0, .ref 0), (1, .long y7)] 32 2 rfl rfl rfl (by decide) rfl ?_
        refine S.goto 15 33 rfl (by decide) ?_
        refine S.sub (lv' := [(0, .ref 0), (1, .long y7), (3, .int (l3 + 1))]) [1, 2, 0] rfl ?_
        exact ih _ _
      · refine S.if_ne 54 27 rfl (by decide) (fun _ => ?_) (fun _ => ?_)
        · refine S.sub (lv' := [(0, .ref 0), (1, .long l1), (3, .int l3)]) [1, 2, 3] rfl ?_
          exact hj8 _
        · refine S.lload_n 28 2 rfl rfl ?_
          refine S.lload 29 0 rfl rfl ?_
          refine S.lor 30 rfl ?_
          refine S.nml (fun x9 => ?_)
          refine S.lstore_n [(1, .long x9), (4, .long x6), (0, .ref 0), (3, .int l3)] 31 rfl (by decide) rfl ?_
          refine S.sub (lv' := [(0, .ref 0), (1, .long x9), (3, .int l3)]) [2, 0, 3] rfl ?_
          exact hj8 _
def F_X11_alone  (I : HI) (J : HJ) : Option (Int64 × HI × HJ) :=
  cl (F_X11_openTable I J) fun r3 I4 J5 =>
  if r3 = 0 then
    some ((-3 : Int64), I4, J5)
  else
    F_X11_alone_L15 I4 J5 bgf (0 : Int64) (0 : Int32)
set_option maxRecDepth 100000 in
theorem cm_X11_alone (b : Bool)  (I : HI) (J : HJ) : CM mX11_alone 26 0 0 [.ref 0] (zs b, I, J) (fL (zs b)) (F_X11_alone  I J) := by
  refine S.of okX11_alone pn_X11 (Nat.le_of_ble_eq_true rfl) ?_
  refine S.sub (lv' := [(0, .ref 0)]) [0] rfl ?_
  unfold F_X11_alone
  refine S.aload_n 0 0 rfl rfl ?_
  refine S.cVI (d := 25) (av := []) (rs := []) (b := 0) 1 rfl co_X11_241 rfl rfl rfl rfl rfl ⟨⟨Nat.le_of_ble_eq_true rfl, Nat.le_of_ble_eq_true rfl⟩, ⟨Nat.le_of_ble_eq_true rfl, Nat.le_of_ble_eq_true rfl⟩, Nat.le_of_ble_eq_true rfl⟩ (cm_X11_openTable b I J) (fun r3 I4 J5 => ?_)
  refine S.if_ne 11 2 rfl (by decide) (fun _ => ?_) (fun _ => ?_)
  · refine S.lconst (0 : Int64) 5 rfl (by decide) ?_
    refine S.lstore_n [(1, .long (0 : Int64)), (0, .ref 0)] 6 rfl (by decide) rfl ?_
    refine S.iconst (0 : Int32) 7 rfl (by decide) ?_
    refine S.istore_n [(3, .int (0 : Int32)), (1, .long (0 : Int64)), (0, .ref 0)] 8 rfl (by decide) rfl ?_
    refine S.sub (lv' := [(0, .ref 0), (1, .long (0 : Int64)), (3, .int (0 : Int32))]) [2, 1, 0] rfl ?_
    refine s_X11_alone_L15 b _ _ bgf _ _
  · refine S.ldc2 (-3 : Int64) 3 rfl ko_X11_270 ?_
    exact S.lret 4 rfl rfl (Nat.le_refl _) (Nat.le_refl _) rfl
def F_X11_twins_L21  : Nat → Int32 → Int32 → HI → HJ → Option (Int32 × HI × HJ)
  | 0, _, _, _, _ => none
  | K+1, l1, l2, I, J =>
    if (I x_board f_Board_lamps) ≤ l2 then
      some (l1, I, J)
    else
      cp (F_X8_likeBehind l2 I J) fun r7 =>
      lb (fun (I8 : HI) (J9 : HJ) =>
      cp (F_J13_bitCount_95d88 r7) fun r11 =>
      lb ((l1 + r11)) fun x12 =>
      F_X11_twins_L21 K x12 (l2 + 1) I8 J9) fun j10 =>
      if l1 = 0 then
        if (lg_cmp r7 (0 : Int64)) = 0 then
          j10 I J
        else
          cl (F_X10_add (Int32.toInt64 l2) I J) fun _ I13 J14 =>
          cp (F_J13_numberOfTrailingZeros_95d88 r7) fun r15 =>
          cl (F_X10_add (Int32.toInt64 r15) I13 J14) fun _ I16 J17 =>
          j10 I16 J17
      else
        j10 I J
set_option maxRecDepth 100000 in
theorem s_X11_twins_L21 (b : Bool)  : ∀ (K : Nat) (l1 : Int32) (l2 : Int32) (I : HI) (J : HJ), S (fI (zs b)) mX11_twins (rmd 26 0 0) 0 0 (0, 0) 21 [(0, .ref 0), (1, .int l1), (2, .int l2)] [] (zs b, I, J) (F_X11_twins_L21 K l1 l2 I J) := by
  intro K
  induction K with
  | zero => intro l1 l2 I J; exact S.none
  | succ K ih =>
    intro l1 l2 I J
    rw [F_X11_twins_L21]
    refine S.iload_n 12 2 rfl rfl ?_
    refine S.aload_n 13 0 rfl rfl ?_
    refine S.getR 14 rfl fo_X11_10 rfl rfl rfl ?_
    refine S.getI 15 rfl fo_X11_109 rfl rfl ?_
    refine S.icmp_ge 85 16 rfl (by decide) (fun _ => ?_) (fun _ => ?_)
    · refine S.iload_n 46 1 rfl rfl ?_
      exact S.iret 47 rfl rfl rfl (Nat.le_refl _) (Nat.le_refl _) rfl
    · refine S.aload_n 17 0 rfl rfl ?_
      refine S.getR 18 rfl fo_X11_60 rfl rfl rfl ?_
      refine S.iload_n 19 2 rfl rfl ?_
      refine S.qVL (d := 1) (av := [.int l2]) (rs := [.int l2]) (b := 30) 20 rfl co_X11_272 rfl rfl rfl rfl rfl ⟨⟨Nat.le_of_ble_eq_true rfl, Nat.le_of_ble_eq_true rfl⟩, ⟨Nat.le_of_ble_eq_true rfl, Nat.le_of_ble_eq_true rfl⟩, Nat.le_of_ble_eq_true rfl⟩ (cm_X8_likeBehind b l2 I J) (fun r7 => ?_)
      refine S.lstore_n [(3, .long r7), (0, .ref 0), (1, .int l1), (2, .int l2)] 21 rfl (by decide) rfl ?_
      refine S.iload_n 22 2 rfl rfl ?_
      refine S.jn (fun j => ∀ (I8 : HI) (J9 : HJ), S (fI (zs b)) mX11_twins (rmd 26 0 0) 0 0 (0, 0) 72 [(0, .ref 0), (1, .int l1), (2, .int l2), (3, .long r7)] [] (zs b, I8, J9) (j I8 J9)) (fun I8 J9 => ?_) (fun j10 hj10 => ?_)
      · refine S.iload_n 39 1 rfl rfl ?_
        refine S.lload_n 40 3 rfl rfl ?_
        refine S.qSI (d := 1) (av := [.long r7]) (rs := [.long r7]) 41 rfl co_X11_190 rfl rfl ⟨⟨Nat.le_of_ble_eq_true rfl, Nat.le_of_ble_eq_true rfl⟩, ⟨Nat.le_of_ble_eq_true rfl, Nat.le_of_ble_eq_true rfl⟩, Nat.le_of_ble_eq_true rfl⟩ (cm_J13_bitCount_95d88 (zs b, I8, J9) r7) (fun r11 => ?_)
        refine S.iadd 42 rfl ?_
        refine S.nmi (fun x12 => ?_)
        refine S.istore_n [(1, .int x12), (0, .ref 0), (2, .int l2), (3, .long r7)] 43 rfl (by decide) rfl ?_
        refine S.iinc (l2 + 1) [(2, .int (l2 + 1)), (1, .int x12), (0, .ref 0), (3, .long r7)] 44 2 rfl rfl rfl (by decide) rfl ?_
        refine S.goto 21 45 rfl (by decide) ?_
        refine S.sub (lv' := [(0, .ref 0), (1, .int x12), (2, .int (l2 + 1))]) [2, 1, 0] rfl ?_
        exact ih _ _ _ _
      · refine S.if_ne 72 23 rfl (by decide) (fun _ => ?_) (fun _ => ?_)
        · refine S.sub (lv' := [(0, .ref 0), (1, .int l1), (2, .int l2), (3, .long r7)]) [1, 2, 3, 0] rfl ?_
          exact hj10 _ _
        · refine S.lload_n 24 0 rfl rfl ?_
          refine S.lconst (0 : Int64) 25 rfl (by decide) ?_
          refine S.lcmp 26 rfl ?_
          refine S.if_eq 72 27 rfl (by decide) (fun _ => ?_) (fun _ => ?_)
          · refine S.sub (lv' := [(0, .ref 0), (1, .int l1), (2, .int l2), (3, .long r7)]) [1, 2, 3, 0] rfl ?_
            exact hj10 _ _
          · refine S.aload_n 28 1 rfl rfl ?_
            refine S.getR 29 rfl fo_X11_35 rfl rfl rfl ?_
            refine S.iload_n 30 3 rfl rfl ?_
            refine S.i2l 31 rfl ?_
            refine S.cVV (d := 1) (av := [.long (Int32.toInt64 l2)]) (rs := [.long (Int32.toInt64 l2)]) (b := 15) 32 rfl co_X11_211 rfl rfl rfl rfl rfl ⟨⟨Nat.le_of_ble_eq_true rfl, Nat.le_of_ble_eq_true rfl⟩, ⟨Nat.le_of_ble_eq_true rfl, Nat.le_of_ble_eq_true rfl⟩, Nat.le_of_ble_eq_true rfl⟩ (cm_X10_add b (Int32.toInt64 l2) I J) (fun _ I13 J14 => ?_)
            refine S.aload_n 33 1 rfl rfl ?_
            refine S.getR 34 rfl fo_X11_35 rfl rfl rfl ?_
            refine S.lload_n 35 0 rfl rfl ?_
            refine S.qSI (d := 2) (av := [.long r7]) (rs := [.long r7]) 36 rfl co_X11_234 rfl rfl ⟨⟨Nat.le_of_ble_eq_true rfl, Nat.le_of_ble_eq_true rfl⟩, ⟨Nat.le_of_ble_eq_true rfl, Nat.le_of_ble_eq_true rfl⟩, Nat.le_of_ble_eq_true rfl⟩ (cm_J13_numberOfTrailingZeros_95d88 (zs b, I13, J14) r7) (fun r15 => ?_)
            refine S.i2l 37 rfl ?_
            refine S.cVV (d := 1) (av := [.long (Int32.toInt64 r15)]) (rs := [.long (Int32.toInt64 r15)]) (b := 15) 38 rfl co_X11_211 rfl rfl rfl rfl rfl ⟨⟨Nat.le_of_ble_eq_true rfl, Nat.le_of_ble_eq_true rfl⟩, ⟨Nat.le_of_ble_eq_true rfl, Nat.le_of_ble_eq_true rfl⟩, Nat.le_of_ble_eq_true rfl⟩ (cm_X10_add b (Int32.toInt64 r15) I13 J14) (fun _ I16 J17 => ?_)
            refine S.sub (lv' := [(0, .ref 0), (1, .int l1), (2, .int l2), (3, .long r7)]) [1, 2, 3, 0] rfl ?_
            exact hj10 _ _
def F_X11_twins  (I : HI) (J : HJ) : Option (Int32 × HI × HJ) :=
  cl (F_X11_openTable I J) fun r2 I3 J4 =>
  if r2 = 0 then
    some ((-3 : Int32), I3, J4)
  else
    cl (F_X10_clear I3 J4) fun _ I5 J6 =>
    F_X11_twins_L21 bgf (0 : Int32) (0 : Int32) I5 J6
set_option maxRecDepth 100000 in
theorem cm_X11_twins (b : Bool)  (I : HI) (J : HJ) : CM mX11_twins 26 0 0 [.ref 0] (zs b, I, J) (fI (zs b)) (F_X11_twins  I J) := by
  refine S.of okX11_twins pn_X11 (Nat.le_of_ble_eq_true rfl) ?_
  refine S.sub (lv' := [(0, .ref 0)]) [0] rfl ?_
  unfold F_X11_twins
  refine S.aload_n 0 0 rfl rfl ?_
  refine S.cVI (d := 25) (av := []) (rs := []) (b := 0) 1 rfl co_X11_241 rfl rfl rfl rfl rfl ⟨⟨Nat.le_of_ble_eq_true rfl, Nat.le_of_ble_eq_true rfl⟩, ⟨Nat.le_of_ble_eq_true rfl, Nat.le_of_ble_eq_true rfl⟩, Nat.le_of_ble_eq_true rfl⟩ (cm_X11_openTable b I J) (fun r2 I3 J4 => ?_)
  refine S.if_ne 10 2 rfl (by decide) (fun _ => ?_) (fun _ => ?_)
  · refine S.aload_n 5 0 rfl rfl ?_
    refine S.getR 6 rfl fo_X11_35 rfl rfl rfl ?_
    refine S.cVV (d := 1) (av := []) (rs := []) (b := 15) 7 rfl co_X11_205 rfl rfl rfl rfl rfl ⟨⟨Nat.le_of_ble_eq_true rfl, Nat.le_of_ble_eq_true rfl⟩, ⟨Nat.le_of_ble_eq_true rfl, Nat.le_of_ble_eq_true rfl⟩, Nat.le_of_ble_eq_true rfl⟩ (cm_X10_clear b I3 J4) (fun _ I5 J6 => ?_)
    refine S.iconst (0 : Int32) 8 rfl (by decide) ?_
    refine S.istore_n [(1, .int (0 : Int32)), (0, .ref 0)] 9 rfl (by decide) rfl ?_
    refine S.iconst (0 : Int32) 10 rfl (by decide) ?_
    refine S.istore_n [(2, .int (0 : Int32)), (1, .int (0 : Int32)), (0, .ref 0)] 11 rfl (by decide) rfl ?_
    refine S.sub (lv' := [(0, .ref 0), (1, .int (0 : Int32)), (2, .int (0 : Int32))]) [2, 1, 0] rfl ?_
    refine s_X11_twins_L21 b bgf _ _ _ _
  · refine S.bipush (-3 : Int32) 3 rfl (by decide) ?_
    exact S.iret 4 rfl rfl rfl (Nat.le_refl _) (Nat.le_refl _) rfl
def F_X11_range_L39 (l1 : Int32) (l2 : Int32) (l3 : Int64) (l5 : Int32) (kx84 : Int32 → HI → HJ → Option (Int32 × HI × HJ)) : Nat → Int32 → Int32 → HI → HJ → Option (Int32 × HI × HJ)
  | 0, _, _, _, _ => none
  | K+1, l6, l7, I, J =>
    if (20 : Int32) < l7 then
      kx84 l6 I J
    else
      lb (ui I x_board f_Board_supply l7) fun I10 =>
      cl (F_X1_glowing l1 l2 I10 J) fun r11 I12 J13 =>
      lb (fun (y14 : Int32) =>
      F_X11_range_L39 l1 l2 l3 l5 kx84 K y14 (l7 + 1) I12 J13) fun j15 =>
      if (lg_cmp r11 l3) = 0 then
        lb ((l6 ||| (oshl (1 : Int32) l7))) fun x16 =>
        j15 x16
      else
        j15 l6
set_option maxRecDepth 100000 in
theorem s_X11_range_L39 (b : Bool) (l1 : Int32) (l2 : Int32) (l3 : Int64) (l5 : Int32) (kx84 : Int32 → HI → HJ → Option (Int32 × HI × HJ)) (hkx84 : ∀ (y6 : Int32) (I1 : HI) (J1 : HJ), S (fI (zs b)) mX11_range (rmd 25 0 0) 0 0 (0, 0) 84 [(0, .ref 0), (5, .int l5), (6, .int y6)] [] (zs b, I1, J1) (kx84 y6 I1 J1)) : ∀ (K : Nat) (l6 : Int32) (l7 : Int32) (I : HI) (J : HJ), S (fI (zs b)) mX11_range (rmd 25 0 0) 0 0 (0, 0) 39 [(0, .ref 0), (1, .int l1), (2, .int l2), (3, .long l3), (5, .int l5), (6, .int l6), (7, .int l7)] [] (zs b, I, J) (F_X11_range_L39 l1 l2 l3 l5 kx84 K l6 l7 I J) := by
  intro K
  induction K with
  | zero => intro l6 l7 I J; exact S.none
  | succ K ih =>
    intro l6 l7 I J
    rw [F_X11_range_L39]
    refine S.iload 22 6 rfl rfl ?_
    refine S.bipush (20 : Int32) 23 rfl (by decide) ?_
    refine S.icmp_gt 84 24 rfl (by decide) (fun _ => ?_) (fun _ => ?_)
    · refine S.sub (lv' := [(0, .ref 0), (5, .int l5), (6, .int l6)]) [0, 4, 5] rfl ?_
      exact hkx84 _ _ _
    · refine S.aload_n 25 0 rfl rfl ?_
      refine S.getR 26 rfl fo_X11_10 rfl rfl rfl ?_
      refine S.iload 27 6 rfl rfl ?_
      refine S.putI 28 rfl fo_X11_127 rfl rfl rfl rfl (fun _ hq => by cases hq; exact Or.inl rfl) (fun I10 => ?_)
      refine S.aload_n 29 0 rfl rfl ?_
      refine S.getR 30 rfl fo_X11_44 rfl rfl rfl ?_
      refine S.iload_n 31 1 rfl rfl ?_
      refine S.iload_n 32 2 rfl rfl ?_
      refine S.cVL (d := 24) (av := [.int l1, .int l2]) (rs := [.int l2, .int l1]) (b := 17) 33 rfl co_X11_186 rfl rfl rfl rfl rfl ⟨⟨Nat.le_of_ble_eq_true rfl, Nat.le_of_ble_eq_true rfl⟩, ⟨Nat.le_of_ble_eq_true rfl, Nat.le_of_ble_eq_true rfl⟩, Nat.le_of_ble_eq_true rfl⟩ (cm_X1_glowing b l1 l2 I10 J) (fun r11 I12 J13 => ?_)
      refine S.lload_n 34 3 rfl rfl ?_
      refine S.lcmp 35 rfl ?_
      refine S.jn (fun j => ∀ (y14 : Int32), S (fI (zs b)) mX11_range (rmd 25 0 0) 0 0 (0, 0) 78 [(0, .ref 0), (1, .int l1), (2, .int l2), (3, .long l3), (5, .int l5), (6, .int y14), (7, .int l7)] [] (zs b, I12, J13) (j y14)) (fun y14 => ?_) (fun j15 hj15 => ?_)
      · refine S.iinc (l7 + 1) [(7, .int (l7 + 1)), (0, .ref 0), (1, .int l1), (2, .int l2), (3, .long l3), (5, .int l5), (6, .int y14)] 43 6 rfl rfl rfl (by decide) rfl ?_
        refine S.goto 39 44 rfl (by decide) ?_
        refine S.sub (lv' := [(0, .ref 0), (1, .int l1), (2, .int l2), (3, .long l3), (5, .int l5), (6, .int y14), (7, .int (l7 + 1))]) [1, 2, 3, 4, 5, 6, 0] rfl ?_
        exact ih _ _ _ _
      · refine S.if_ne 78 36 rfl (by decide) (fun _ => ?_) (fun _ => ?_)
        · exact hj15 _
        · refine S.iload 37 5 rfl rfl ?_
          refine S.iconst (1 : Int32) 38 rfl (by decide) ?_
          refine S.iload 39 6 rfl rfl ?_
          refine S.ishl 40 rfl ?_
          refine S.ior 41 rfl ?_
          refine S.nmi (fun x16 => ?_)
          refine S.istore [(6, .int x16), (0, .ref 0), (1, .int l1), (2, .int l2), (3, .long l3), (5, .int l5), (7, .int l7)] 42 rfl (by decide) rfl ?_
          refine S.sub (lv' := [(0, .ref 0), (1, .int l1), (2, .int l2), (3, .long l3), (5, .int l5), (6, .int x16), (7, .int l7)]) [1, 2, 3, 4, 5, 0, 6] rfl ?_
          exact hj15 _
def F_X11_range (l1 : Int32) (l2 : Int32) (I : HI) (J : HJ) : Option (Int32 × HI × HJ) :=
  cp (F_X0_hasSetting l1 l2 I J) fun r5 =>
  if r5 = 0 then
    some ((-1 : Int32), I, J)
  else
    cl (F_X1_glowing l1 l2 I J) fun r6 I7 J8 =>
    lb ((I7 x_board f_Board_supply)) fun x9 =>
    F_X11_range_L39 l1 l2 r6 x9 (fun (y17 : Int32) (I18 : HI) (J19 : HJ) =>
    lb (ui I18 x_board f_Board_supply x9) fun I20 =>
    some (y17, I20, J19)) bgf (0 : Int32) (1 : Int32) I7 J8
set_option maxRecDepth 100000 in
theorem cm_X11_range (b : Bool) (l1 : Int32) (l2 : Int32) (I : HI) (J : HJ) : CM mX11_range 25 0 0 [.ref 0, .int l1, .int l2] (zs b, I, J) (fI (zs b)) (F_X11_range l1 l2 I J) := by
  refine S.of okX11_range pn_X11 (Nat.le_of_ble_eq_true rfl) ?_
  refine S.sub (lv' := [(0, .ref 0), (1, .int l1), (2, .int l2)]) [0, 1, 2] rfl ?_
  unfold F_X11_range
  refine S.aload_n 0 0 rfl rfl ?_
  refine S.getR 1 rfl fo_X11_10 rfl rfl rfl ?_
  refine S.iload_n 2 1 rfl rfl ?_
  refine S.iload_n 3 2 rfl rfl ?_
  refine S.qVI (d := 1) (av := [.int l1, .int l2]) (rs := [.int l2, .int l1]) (b := 1) 4 rfl co_X11_177 rfl rfl rfl rfl rfl ⟨⟨Nat.le_of_ble_eq_true rfl, Nat.le_of_ble_eq_true rfl⟩, ⟨Nat.le_of_ble_eq_true rfl, Nat.le_of_ble_eq_true rfl⟩, Nat.le_of_ble_eq_true rfl⟩ (cm_X0_hasSetting b l1 l2 I J) (fun r5 => ?_)
  refine S.if_ne 14 5 rfl (by decide) (fun _ => ?_) (fun _ => ?_)
  · refine S.aload_n 8 0 rfl rfl ?_
    refine S.getR 9 rfl fo_X11_44 rfl rfl rfl ?_
    refine S.iload_n 10 1 rfl rfl ?_
    refine S.iload_n 11 2 rfl rfl ?_
    refine S.cVL (d := 24) (av := [.int l1, .int l2]) (rs := [.int l2, .int l1]) (b := 17) 12 rfl co_X11_186 rfl rfl rfl rfl rfl ⟨⟨Nat.le_of_ble_eq_true rfl, Nat.le_of_ble_eq_true rfl⟩, ⟨Nat.le_of_ble_eq_true rfl, Nat.le_of_ble_eq_true rfl⟩, Nat.le_of_ble_eq_true rfl⟩ (cm_X1_glowing b l1 l2 I J) (fun r6 I7 J8 => ?_)
    refine S.lstore_n [(3, .long r6), (0, .ref 0), (1, .int l1), (2, .int l2)] 13 rfl (by decide) rfl ?_
    refine S.aload_n 14 1 rfl rfl ?_
    refine S.getR 15 rfl fo_X11_10 rfl rfl rfl ?_
    refine S.getI 16 rfl fo_X11_127 rfl rfl ?_
    refine S.nmi (fun x9 => ?_)
    refine S.istore [(5, .int x9), (3, .long r6), (0, .ref 0), (1, .int l1), (2, .int l2)] 17 rfl (by decide) rfl ?_
    refine S.iconst (0 : Int32) 18 rfl (by decide) ?_
    refine S.istore [(6, .int (0 : Int32)), (5, .int x9), (3, .long r6), (0, .ref 0), (1, .int l1), (2, .int l2)] 19 rfl (by decide) rfl ?_
    refine S.iconst (1 : Int32) 20 rfl (by decide) ?_
    refine S.istore [(7, .int (1 : Int32)), (6, .int (0 : Int32)), (5, .int x9), (3, .long r6), (0, .ref 0), (1, .int l1), (2, .int l2)] 21 rfl (by decide) rfl ?_
    refine S.sub (lv' := [(0, .ref 0), (1, .int l1), (2, .int l2), (3, .long r6), (5, .int x9), (6, .int (0 : Int32)), (7, .int (1 : Int32))]) [4, 5, 6, 3, 2, 1, 0] rfl ?_
    refine s_X11_range_L39 b _ _ _ _ _ (fun y17 I18 J19 => ?_) bgf _ _ _ _
    refine S.aload_n 45 0 rfl rfl ?_
    refine S.getR 46 rfl fo_X11_10 rfl rfl rfl ?_
    refine S.iload 47 1 rfl rfl ?_
    refine S.putI 48 rfl fo_X11_127 rfl rfl rfl rfl (fun _ hq => by cases hq; exact Or.inl rfl) (fun I20 => ?_)
    refine S.iload 49 2 rfl rfl ?_
    exact S.iret 50 rfl rfl rfl (Nat.le_refl _) (Nat.le_refl _) rfl
  · refine S.iconst (-1 : Int32) 6 rfl (by decide) ?_
    exact S.iret 7 rfl rfl rfl (Nat.le_refl _) (Nat.le_refl _) rfl
def F_X11_isPicture (l0 : Int32) : Option Int32 :=
  if l0 < 0 then
    some (0 : Int32)
  else
    if (4 : Int32) ≤ l0 then
      some (0 : Int32)
    else
      some (1 : Int32)
set_option maxRecDepth 100000 in
theorem cm_X11_isPicture (h : Hp) (l0 : Int32) : CM mX11_isPicture 1 0 0 [.int l0] h (pI h) (F_X11_isPicture l0) := by
  refine S.of okX11_isPicture pn_X11 (Nat.le_of_ble_eq_true rfl) ?_
  refine S.sub (lv' := [(0, .int l0)]) [0] rfl ?_
  unfold F_X11_isPicture
  refine S.iload_n 0 0 rfl rfl ?_
  refine S.if_lt 13 1 rfl (by decide) (fun _ => ?_) (fun _ => ?_)
  · refine S.iconst (0 : Int32) 7 rfl (by decide) ?_
    exact S.iret 8 rfl rfl rfl (Nat.le_refl _) (Nat.le_refl _) rfl
  · refine S.iload_n 2 0 rfl rfl ?_
    refine S.iconst (4 : Int32) 3 rfl (by decide) ?_
    refine S.icmp_ge 13 4 rfl (by decide) (fun _ => ?_) (fun _ => ?_)
    · refine S.iconst (0 : Int32) 7 rfl (by decide) ?_
      exact S.iret 8 rfl rfl rfl (Nat.le_refl _) (Nat.le_refl _) rfl
    · refine S.iconst (1 : Int32) 5 rfl (by decide) ?_
      refine S.goto 14 6 rfl (by decide) ?_
      exact S.iret 8 rfl rfl rfl (Nat.le_refl _) (Nat.le_refl _) rfl
def F_X11_picture (l1 : Int32) (l2 : Int64) (I : HI) (J : HJ) : Option (Int32 × HI × HJ) :=
  cp (F_X11_isPicture l1) fun r2 =>
  if r2 = 0 then
    some ((-1 : Int32), I, J)
  else
    cp (F_X0_hasLamps l2 I J) fun r3 =>
    if r3 = 0 then
      some ((-1 : Int32), I, J)
    else
      bx l1 4 <|
      lb (uj J x_notes_pictures (Int32.toNatClampNeg l1) l2) fun J4 =>
      cp (F_J13_bitCount_95d88 l2) fun r5 =>
      some (r5, I, J4)
set_option maxRecDepth 100000 in
theorem cm_X11_picture (b : Bool) (l1 : Int32) (l2 : Int64) (I : HI) (J : HJ) : CM mX11_picture 2 0 0 [.ref 0, .int l1, .long l2] (zs b, I, J) (fI (zs b)) (F_X11_picture l1 l2 I J) := by
  refine S.of okX11_picture pn_X11 (Nat.le_of_ble_eq_true rfl) ?_
  refine S.sub (lv' := [(0, .ref 0), (1, .int l1), (2, .long l2)]) [0, 1, 2] rfl ?_
  unfold F_X11_picture
  refine S.iload_n 0 1 rfl rfl ?_
  refine S.qSI (d := 1) (av := [.int l1]) (rs := [.int l1]) 1 rfl co_X11_276 rfl rfl ⟨⟨Nat.le_of_ble_eq_true rfl, Nat.le_of_ble_eq_true rfl⟩, ⟨Nat.le_of_ble_eq_true rfl, Nat.le_of_ble_eq_true rfl⟩, Nat.le_of_ble_eq_true rfl⟩ (cm_X11_isPicture (zs b, I, J) l1) (fun r2 => ?_)
  refine S.if_eq 18 2 rfl (by decide) (fun _ => ?_) (fun _ => ?_)
  · refine S.iconst (-1 : Int32) 8 rfl (by decide) ?_
    exact S.iret 9 rfl rfl rfl (Nat.le_refl _) (Nat.le_refl _) rfl
  · refine S.aload_n 3 0 rfl rfl ?_
    refine S.getR 4 rfl fo_X11_10 rfl rfl rfl ?_
    refine S.lload_n 5 2 rfl rfl ?_
    refine S.qVI (d := 1) (av := [.long l2]) (rs := [.long l2]) (b := 1) 6 rfl co_X11_237 rfl rfl rfl rfl rfl ⟨⟨Nat.le_of_ble_eq_true rfl, Nat.le_of_ble_eq_true rfl⟩, ⟨Nat.le_of_ble_eq_true rfl, Nat.le_of_ble_eq_true rfl⟩, Nat.le_of_ble_eq_true rfl⟩ (cm_X0_hasLamps b l2 I J) (fun r3 => ?_)
    refine S.if_ne 20 7 rfl (by decide) (fun _ => ?_) (fun _ => ?_)
    · refine S.aload_n 10 0 rfl rfl ?_
      refine S.getR 11 rfl fo_X11_51 rfl rfl rfl ?_
      refine S.getR 12 rfl fo_X11_279 rfl rfl rfl ?_
      refine S.iload_n 13 1 rfl rfl ?_
      refine S.lload_n 14 2 rfl rfl ?_
      refine S.last 15 rfl rfl (fun J4 => ?_)
      refine S.lload_n 16 2 rfl rfl ?_
      refine S.qSI (d := 1) (av := [.long l2]) (rs := [.long l2]) 17 rfl co_X11_190 rfl rfl ⟨⟨Nat.le_of_ble_eq_true rfl, Nat.le_of_ble_eq_true rfl⟩, ⟨Nat.le_of_ble_eq_true rfl, Nat.le_of_ble_eq_true rfl⟩, Nat.le_of_ble_eq_true rfl⟩ (cm_J13_bitCount_95d88 (zs b, I, J4) l2) (fun r5 => ?_)
      exact S.iret 18 rfl rfl rfl (Nat.le_refl _) (Nat.le_refl _) rfl
    · refine S.iconst (-1 : Int32) 8 rfl (by decide) ?_
      exact S.iret 9 rfl rfl rfl (Nat.le_refl _) (Nat.le_refl _) rfl
def F_X11_openParting (l1 : Int32) (I : HI) (J : HJ) : Option (Int32 × HI × HJ) :=
  cp (F_X11_isPicture l1) fun r1 =>
  if r1 = 0 then
    some ((-1 : Int32), I, J)
  else
    cp (F_X11_isSearchable I J) fun r2 =>
    if r2 = 0 then
      some ((-3 : Int32), I, J)
    else
      bx l1 4 <|
      cp (F_J13_bitCount_95d88 (J x_notes_pictures (Int32.toNatClampNeg l1))) fun r3 =>
      if r3 ≤ (12 : Int32) then
        cl (F_X8_refresh I J) fun _ I4 J5 =>
        bx l1 4 <|
        cl (F_X4_open (J5 x_notes_pictures (Int32.toNatClampNeg l1)) I4 J5) fun _ I6 J7 =>
        some ((0 : Int32), I6, J7)
      else
        some ((-4 : Int32), I, J)
set_option maxRecDepth 100000 in
theorem cm_X11_openParting (b : Bool) (l1 : Int32) (I : HI) (J : HJ) : CM mX11_openParting 25 0 0 [.ref 0, .int l1] (zs b, I, J) (fI (zs b)) (F_X11_openParting l1 I J) := by
  refine S.of okX11_openParting pn_X11 (Nat.le_of_ble_eq_true rfl) ?_
  refine S.sub (lv' := [(0, .ref 0), (1, .int l1)]) [0, 1] rfl ?_
  unfold F_X11_openParting
  refine S.iload_n 0 1 rfl rfl ?_
  refine S.qSI (d := 1) (av := [.int l1]) (rs := [.int l1]) 1 rfl co_X11_276 rfl rfl ⟨⟨Nat.le_of_ble_eq_true rfl, Nat.le_of_ble_eq_true rfl⟩, ⟨Nat.le_of_ble_eq_true rfl, Nat.le_of_ble_eq_true rfl⟩, Nat.le_of_ble_eq_true rfl⟩ (cm_X11_isPicture (zs b, I, J) l1) (fun r1 => ?_)
  refine S.if_ne 9 2 rfl (by decide) (fun _ => ?_) (fun _ => ?_)
  · refine S.aload_n 5 0 rfl rfl ?_
    refine S.qVI (d := 1) (av := []) (rs := []) (b := 0) 6 rfl co_X11_426 rfl rfl rfl rfl rfl ⟨⟨Nat.le_of_ble_eq_true rfl, Nat.le_of_ble_eq_true rfl⟩, ⟨Nat.le_of_ble_eq_true rfl, Nat.le_of_ble_eq_true rfl⟩, Nat.le_of_ble_eq_true rfl⟩ (cm_X11_isSearchable b I J) (fun r2 => ?_)
    refine S.if_ne 19 7 rfl (by decide) (fun _ => ?_) (fun _ => ?_)
    · refine S.aload_n 10 0 rfl rfl ?_
      refine S.getR 11 rfl fo_X11_51 rfl rfl rfl ?_
      refine S.getR 12 rfl fo_X11_279 rfl rfl rfl ?_
      refine S.iload_n 13 1 rfl rfl ?_
      refine S.lald 14 rfl rfl ?_
      refine S.qSI (d := 1) (av := [.long (J x_notes_pictures (Int32.toNatClampNeg l1))]) (rs := [.long (J x_notes_pictures (Int32.toNatClampNeg l1))]) 15 rfl co_X11_190 rfl rfl ⟨⟨Nat.le_of_ble_eq_true rfl, Nat.le_of_ble_eq_true rfl⟩, ⟨Nat.le_of_ble_eq_true rfl, Nat.le_of_ble_eq_true rfl⟩, Nat.le_of_ble_eq_true rfl⟩ (cm_J13_bitCount_95d88 (zs b, I, J) (J x_notes_pictures (Int32.toNatClampNeg l1))) (fun r3 => ?_)
      refine S.bipush (12 : Int32) 16 rfl (by decide) ?_
      refine S.icmp_le 39 17 rfl (by decide) (fun _ => ?_) (fun _ => ?_)
      · refine S.aload_n 20 0 rfl rfl ?_
        refine S.getR 21 rfl fo_X11_60 rfl rfl rfl ?_
        refine S.cVV (d := 24) (av := []) (rs := []) (b := 30) 22 rfl co_X11_429 rfl rfl rfl rfl rfl ⟨⟨Nat.le_of_ble_eq_true rfl, Nat.le_of_ble_eq_true rfl⟩, ⟨Nat.le_of_ble_eq_true rfl, Nat.le_of_ble_eq_true rfl⟩, Nat.le_of_ble_eq_true rfl⟩ (cm_X8_refresh b I J) (fun _ I4 J5 => ?_)
        refine S.aload_n 23 0 rfl rfl ?_
        refine S.getR 24 rfl fo_X11_69 rfl rfl rfl ?_
        refine S.aload_n 25 0 rfl rfl ?_
        refine S.getR 26 rfl fo_X11_51 rfl rfl rfl ?_
        refine S.getR 27 rfl fo_X11_279 rfl rfl rfl ?_
        refine S.iload_n 28 1 rfl rfl ?_
        refine S.lald 29 rfl rfl ?_
        refine S.cVV (d := 2) (av := [.long (J5 x_notes_pictures (Int32.toNatClampNeg l1))]) (rs := [.long (J5 x_notes_pictures (Int32.toNatClampNeg l1))]) (b := 36) 30 rfl co_X11_432 rfl rfl rfl rfl rfl ⟨⟨Nat.le_of_ble_eq_true rfl, Nat.le_of_ble_eq_true rfl⟩, ⟨Nat.le_of_ble_eq_true rfl, Nat.le_of_ble_eq_true rfl⟩, Nat.le_of_ble_eq_true rfl⟩ (cm_X4_open b (J5 x_notes_pictures (Int32.toNatClampNeg l1)) I4 J5) (fun _ I6 J7 => ?_)
        refine S.iconst (0 : Int32) 31 rfl (by decide) ?_
        exact S.iret 32 rfl rfl rfl (Nat.le_refl _) (Nat.le_refl _) rfl
      · refine S.bipush (-4 : Int32) 18 rfl (by decide) ?_
        exact S.iret 19 rfl rfl rfl (Nat.le_refl _) (Nat.le_refl _) rfl
    · refine S.bipush (-3 : Int32) 8 rfl (by decide) ?_
      exact S.iret 9 rfl rfl rfl (Nat.le_refl _) (Nat.le_refl _) rfl
  · refine S.iconst (-1 : Int32) 3 rfl (by decide) ?_
    exact S.iret 4 rfl rfl rfl (Nat.le_refl _) (Nat.le_refl _) rfl
def F_X11_partInto (l1 : Int32) (I : HI) (J : HJ) : Option (Int32 × HI × HJ) :=
  cl (F_X11_openParting l1 I J) fun r1 I2 J3 =>
  if r1 = 0 then
    cl (F_X4_part I2 J3) fun r4 I5 J6 =>
    some (r4, I5, J6)
  else
    some (r1, I2, J3)
set_option maxRecDepth 100000 in
theorem cm_X11_partInto (b : Bool) (l1 : Int32) (I : HI) (J : HJ) : CM mX11_partInto 26 0 0 [.ref 0, .int l1] (zs b, I, J) (fI (zs b)) (F_X11_partInto l1 I J) := by
  refine S.of okX11_partInto pn_X11 (Nat.le_of_ble_eq_true rfl) ?_
  refine S.sub (lv' := [(0, .ref 0), (1, .int l1)]) [0, 1] rfl ?_
  unfold F_X11_partInto
  refine S.aload_n 0 0 rfl rfl ?_
  refine S.iload_n 1 1 rfl rfl ?_
  refine S.cVI (d := 25) (av := [.int l1]) (rs := [.int l1]) (b := 0) 2 rfl co_X11_292 rfl rfl rfl rfl rfl ⟨⟨Nat.le_of_ble_eq_true rfl, Nat.le_of_ble_eq_true rfl⟩, ⟨Nat.le_of_ble_eq_true rfl, Nat.le_of_ble_eq_true rfl⟩, Nat.le_of_ble_eq_true rfl⟩ (cm_X11_openParting b l1 I J) (fun r1 I2 J3 => ?_)
  refine S.istore_n [(2, .int r1), (0, .ref 0), (1, .int l1)] 3 rfl (by decide) rfl ?_
  refine S.iload_n 4 0 rfl rfl ?_
  refine S.if_eq 14 5 rfl (by decide) (fun _ => ?_) (fun _ => ?_)
  · refine S.aload_n 8 1 rfl rfl ?_
    refine S.getR 9 rfl fo_X11_69 rfl rfl rfl ?_
    refine S.cVI (d := 23) (av := []) (rs := []) (b := 36) 10 rfl co_X11_435 rfl rfl rfl rfl rfl ⟨⟨Nat.le_of_ble_eq_true rfl, Nat.le_of_ble_eq_true rfl⟩, ⟨Nat.le_of_ble_eq_true rfl, Nat.le_of_ble_eq_true rfl⟩, Nat.le_of_ble_eq_true rfl⟩ (cm_X4_part b I2 J3) (fun r4 I5 J6 => ?_)
    exact S.iret 11 rfl rfl rfl (Nat.le_refl _) (Nat.le_refl _) rfl
  · refine S.iload_n 6 0 rfl rfl ?_
    refine S.goto 21 7 rfl (by decide) ?_
    exact S.iret 11 rfl rfl rfl (Nat.le_refl _) (Nat.le_refl _) rfl
def F_X11_tellTurns_42_L9 (l2 : Int32) : Nat → Int32 → HI → HJ → Option (Unit × HI × HJ)
  | 0, _, _, _ => none
  | K+1, l3, I, J =>
    if l2 ≤ l3 then
      some ((), I, J)
    else
      if (12 : Int32) ≤ l3 then
        some ((), I, J)
      else
        bx l3 12 <|
        cl (F_X10_add (Int32.toInt64 (I x_parting_chosen (Int32.toNatClampNeg l3))) I J) fun _ I3 J4 =>
        F_X11_tellTurns_42_L9 l2 K (l3 + 1) I3 J4
set_option maxRecDepth 100000 in
theorem s_X11_tellTurns_42_L9 (b : Bool) (l2 : Int32) : ∀ (K : Nat) (l3 : Int32) (I : HI) (J : HJ), S (fV (zs b)) mX11_tellTurns (rmd 2 0 0) 0 0 (0, 0) 9 [(0, .ref 0), (1, .ref 42), (2, .int l2), (3, .int l3)] [] (zs b, I, J) (F_X11_tellTurns_42_L9 l2 K l3 I J) := by
  intro K
  induction K with
  | zero => intro l3 I J; exact S.none
  | succ K ih =>
    intro l3 I J
    rw [F_X11_tellTurns_42_L9]
    refine S.iload_n 5 3 rfl rfl ?_
    refine S.iload_n 6 2 rfl rfl ?_
    refine S.icmp_ge 37 7 rfl (by decide) (fun _ => ?_) (fun _ => ?_)
    · exact S.vret 21 rfl rfl (Nat.le_refl _) (Nat.le_refl _) rfl
    · refine S.iload_n 8 3 rfl rfl ?_
      refine S.aload_n 9 1 rfl rfl ?_
      refine S.alen (12 : Int32) 10 rfl rfl (by decide) (by decide) (by decide) ?_
      refine S.icmp_ge 37 11 rfl (by decide) (fun _ => ?_) (fun _ => ?_)
      · exact S.vret 21 rfl rfl (Nat.le_refl _) (Nat.le_refl _) rfl
      · refine S.aload_n 12 0 rfl rfl ?_
        refine S.getR 13 rfl fo_X11_35 rfl rfl rfl ?_
        refine S.aload_n 14 1 rfl rfl ?_
        refine S.iload_n 15 3 rfl rfl ?_
        refine S.iald 16 rfl rfl ?_
        refine S.i2l 17 rfl ?_
        refine S.cVV (d := 1) (av := [.long (Int32.toInt64 (I x_parting_chosen (Int32.toNatClampNeg l3)))]) (rs := [.long (Int32.toInt64 (I x_parting_chosen (Int32.toNatClampNeg l3)))]) (b := 15) 18 rfl co_X11_211 rfl rfl rfl rfl rfl ⟨⟨Nat.le_of_ble_eq_true rfl, Nat.le_of_ble_eq_true rfl⟩, ⟨Nat.le_of_ble_eq_true rfl, Nat.le_of_ble_eq_true rfl⟩, Nat.le_of_ble_eq_true rfl⟩ (cm_X10_add b (Int32.toInt64 (I x_parting_chosen (Int32.toNatClampNeg l3))) I J) (fun _ I3 J4 => ?_)
        refine S.iinc (l3 + 1) [(3, .int (l3 + 1)), (0, .ref 0), (1, .ref 42), (2, .int l2)] 19 3 rfl rfl rfl (by decide) rfl ?_
        refine S.goto 9 20 rfl (by decide) ?_
        refine S.sub (lv' := [(0, .ref 0), (1, .ref 42), (2, .int l2), (3, .int (l3 + 1))]) [1, 2, 3, 0] rfl ?_
        exact ih _ _ _
def F_X11_tellTurns_42 (l2 : Int32) (I : HI) (J : HJ) : Option (Unit × HI × HJ) :=
  cl (F_X10_clear I J) fun _ I1 J2 =>
  F_X11_tellTurns_42_L9 l2 bgf (0 : Int32) I1 J2
set_option maxRecDepth 100000 in
theorem cm_X11_tellTurns_42 (b : Bool) (l2 : Int32) (I : HI) (J : HJ) : CM mX11_tellTurns 2 0 0 [.ref 0, .ref 42, .int l2] (zs b, I, J) (fV (zs b)) (F_X11_tellTurns_42 l2 I J) := by
  refine S.of okX11_tellTurns pn_X11 (Nat.le_of_ble_eq_true rfl) ?_
  refine S.sub (lv' := [(0, .ref 0), (1, .ref 42), (2, .int l2)]) [0, 1, 2] rfl ?_
  unfold F_X11_tellTurns_42
  refine S.aload_n 0 0 rfl rfl ?_
  refine S.getR 1 rfl fo_X11_35 rfl rfl rfl ?_
  refine S.cVV (d := 1) (av := []) (rs := []) (b := 15) 2 rfl co_X11_205 rfl rfl rfl rfl rfl ⟨⟨Nat.le_of_ble_eq_true rfl, Nat.le_of_ble_eq_true rfl⟩, ⟨Nat.le_of_ble_eq_true rfl, Nat.le_of_ble_eq_true rfl⟩, Nat.le_of_ble_eq_true rfl⟩ (cm_X10_clear b I J) (fun _ I1 J2 => ?_)
  refine S.iconst (0 : Int32) 3 rfl (by decide) ?_
  refine S.istore_n [(3, .int (0 : Int32)), (0, .ref 0), (1, .ref 42), (2, .int l2)] 4 rfl (by decide) rfl ?_
  refine S.sub (lv' := [(0, .ref 0), (1, .ref 42), (2, .int l2), (3, .int (0 : Int32))]) [1, 2, 3, 0] rfl ?_
  refine s_X11_tellTurns_42_L9 b _ bgf _ _ _
def F_X11_parted (l1 : Int32) (I : HI) (J : HJ) : Option (Int32 × HI × HJ) :=
  cl (F_X11_partInto l1 I J) fun r1 I2 J3 =>
  if r1 < 0 then
    some (r1, I2, J3)
  else
    cl (F_X11_tellTurns_42 r1 I2 J3) fun _ I4 J5 =>
    some (r1, I4, J5)
set_option maxRecDepth 100000 in
theorem cm_X11_parted (b : Bool) (l1 : Int32) (I : HI) (J : HJ) : CM mX11_parted 27 0 0 [.ref 0, .int l1] (zs b, I, J) (fI (zs b)) (F_X11_parted l1 I J) := by
  refine S.of okX11_parted pn_X11 (Nat.le_of_ble_eq_true rfl) ?_
  refine S.sub (lv' := [(0, .ref 0), (1, .int l1)]) [0, 1] rfl ?_
  unfold F_X11_parted
  refine S.aload_n 0 0 rfl rfl ?_
  refine S.iload_n 1 1 rfl rfl ?_
  refine S.cVI (d := 26) (av := [.int l1]) (rs := [.int l1]) (b := 0) 2 rfl co_X11_282 rfl rfl rfl rfl rfl ⟨⟨Nat.le_of_ble_eq_true rfl, Nat.le_of_ble_eq_true rfl⟩, ⟨Nat.le_of_ble_eq_true rfl, Nat.le_of_ble_eq_true rfl⟩, Nat.le_of_ble_eq_true rfl⟩ (cm_X11_partInto b l1 I J) (fun r1 I2 J3 => ?_)
  refine S.istore_n [(2, .int r1), (0, .ref 0), (1, .int l1)] 3 rfl (by decide) rfl ?_
  refine S.iload_n 4 0 rfl rfl ?_
  refine S.if_lt 22 5 rfl (by decide) (fun _ => ?_) (fun _ => ?_)
  · refine S.iload_n 12 0 rfl rfl ?_
    exact S.iret 13 rfl rfl rfl (Nat.le_refl _) (Nat.le_refl _) rfl
  · refine S.aload_n 6 1 rfl rfl ?_
    refine S.aload_n 7 1 rfl rfl ?_
    refine S.getR 8 rfl fo_X11_69 rfl rfl rfl ?_
    refine S.getR 9 rfl fo_X11_286 rfl rfl rfl ?_
    refine S.iload_n 10 0 rfl rfl ?_
    refine S.cVV (d := 2) (av := [.ref 42, .int r1]) (rs := [.int r1, .ref 42]) (b := 0) 11 rfl co_X11_289 rfl rfl rfl rfl rfl ⟨⟨Nat.le_of_ble_eq_true rfl, Nat.le_of_ble_eq_true rfl⟩, ⟨Nat.le_of_ble_eq_true rfl, Nat.le_of_ble_eq_true rfl⟩, Nat.le_of_ble_eq_true rfl⟩ (cm_X11_tellTurns_42 b r1 I2 J3) (fun _ I4 J5 => ?_)
    refine S.iload_n 12 0 rfl rfl ?_
    exact S.iret 13 rfl rfl rfl (Nat.le_refl _) (Nat.le_refl _) rfl
def F_X11_proof (l1 : Int32) (I : HI) (J : HJ) : Option (Int32 × HI × HJ) :=
  cl (F_X11_openParting l1 I J) fun r1 I2 J3 =>
  if r1 = 0 then
    cl (F_X4_mostApart I2 J3) fun r4 I5 J6 =>
    cl (F_X10_clear I5 J6) fun _ I7 J8 =>
    cl (F_X10_add r4 I7 J8) fun _ I9 J10 =>
    cp (F_J13_bitCount_95d88 r4) fun r11 =>
    some (r11, I9, J10)
  else
    some (r1, I2, J3)
set_option maxRecDepth 100000 in
theorem cm_X11_proof (b : Bool) (l1 : Int32) (I : HI) (J : HJ) : CM mX11_proof 26 0 0 [.ref 0, .int l1] (zs b, I, J) (fI (zs b)) (F_X11_proof l1 I J) := by
  refine S.of okX11_proof pn_X11 (Nat.le_of_ble_eq_true rfl) ?_
  refine S.sub (lv' := [(0, .ref 0), (1, .int l1)]) [0, 1] rfl ?_
  unfold F_X11_proof
  refine S.aload_n 0 0 rfl rfl ?_
  refine S.iload_n 1 1 rfl rfl ?_
  refine S.cVI (d := 25) (av := [.int l1]) (rs := [.int l1]) (b := 0) 2 rfl co_X11_292 rfl rfl rfl rfl rfl ⟨⟨Nat.le_of_ble_eq_true rfl, Nat.le_of_ble_eq_true rfl⟩, ⟨Nat.le_of_ble_eq_true rfl, Nat.le_of_ble_eq_true rfl⟩, Nat.le_of_ble_eq_true rfl⟩ (cm_X11_openParting b l1 I J) (fun r1 I2 J3 => ?_)
  refine S.istore_n [(2, .int r1), (0, .ref 0), (1, .int l1)] 3 rfl (by decide) rfl ?_
  refine S.iload_n 4 0 rfl rfl ?_
  refine S.if_eq 12 5 rfl (by decide) (fun _ => ?_) (fun _ => ?_)
  · refine S.aload_n 8 1 rfl rfl ?_
    refine S.getR 9 rfl fo_X11_69 rfl rfl rfl ?_
    refine S.cVL (d := 3) (av := []) (rs := []) (b := 36) 10 rfl co_X11_295 rfl rfl rfl rfl rfl ⟨⟨Nat.le_of_ble_eq_true rfl, Nat.le_of_ble_eq_true rfl⟩, ⟨Nat.le_of_ble_eq_true rfl, Nat.le_of_ble_eq_true rfl⟩, Nat.le_of_ble_eq_true rfl⟩ (cm_X4_mostApart b I2 J3) (fun r4 I5 J6 => ?_)
    refine S.lstore_n [(3, .long r4), (2, .int r1), (0, .ref 0), (1, .int l1)] 11 rfl (by decide) rfl ?_
    refine S.aload_n 12 2 rfl rfl ?_
    refine S.getR 13 rfl fo_X11_35 rfl rfl rfl ?_
    refine S.cVV (d := 1) (av := []) (rs := []) (b := 15) 14 rfl co_X11_205 rfl rfl rfl rfl rfl ⟨⟨Nat.le_of_ble_eq_true rfl, Nat.le_of_ble_eq_true rfl⟩, ⟨Nat.le_of_ble_eq_true rfl, Nat.le_of_ble_eq_true rfl⟩, Nat.le_of_ble_eq_true rfl⟩ (cm_X10_clear b I5 J6) (fun _ I7 J8 => ?_)
    refine S.aload_n 15 2 rfl rfl ?_
    refine S.getR 16 rfl fo_X11_35 rfl rfl rfl ?_
    refine S.lload_n 17 0 rfl rfl ?_
    refine S.cVV (d := 1) (av := [.long r4]) (rs := [.long r4]) (b := 15) 18 rfl co_X11_211 rfl rfl rfl rfl rfl ⟨⟨Nat.le_of_ble_eq_true rfl, Nat.le_of_ble_eq_true rfl⟩, ⟨Nat.le_of_ble_eq_true rfl, Nat.le_of_ble_eq_true rfl⟩, Nat.le_of_ble_eq_true rfl⟩ (cm_X10_add b r4 I7 J8) (fun _ I9 J10 => ?_)
    refine S.lload_n 19 0 rfl rfl ?_
    refine S.qSI (d := 1) (av := [.long r4]) (rs := [.long r4]) 20 rfl co_X11_190 rfl rfl ⟨⟨Nat.le_of_ble_eq_true rfl, Nat.le_of_ble_eq_true rfl⟩, ⟨Nat.le_of_ble_eq_true rfl, Nat.le_of_ble_eq_true rfl⟩, Nat.le_of_ble_eq_true rfl⟩ (cm_J13_bitCount_95d88 (zs b, I9, J10) r4) (fun r11 => ?_)
    exact S.iret 21 rfl rfl rfl (Nat.le_refl _) (Nat.le_refl _) rfl
  · refine S.iload_n 6 0 rfl rfl ?_
    exact S.iret 7 rfl rfl rfl (Nat.le_refl _) (Nat.le_refl _) rfl
def F_X11_never_L38 (l2 : Int64) (I : HI) (J : HJ) : Nat → Int64 → Int32 → Option (Int64 × HI × HJ)
  | 0, _, _ => none
  | K+1, l4, l6 =>
    if (I x_table f_Table_size) ≤ l6 then
      some (l4, I, J)
    else
      cp (F_X8_isTurn l6 l2 I J) fun r8 =>
      lb (fun (y9 : Int64) =>
      F_X11_never_L38 l2 I J K y9 (l6 + 1)) fun j10 =>
      if r8 = 0 then
        j10 l4
      else
        bx l6 2187 <|
        lb ((l4 &&& ((J x_table_glow (Int32.toNatClampNeg l6)) ^^^ (-1 : Int64)))) fun x11 =>
        j10 x11
set_option maxRecDepth 100000 in
theorem s_X11_never_L38 (b : Bool) (l2 : Int64) (I : HI) (J : HJ) : ∀ (K : Nat) (l4 : Int64) (l6 : Int32), S (fL (zs b)) mX11_never (rmd 26 0 0) 0 0 (0, 0) 38 [(0, .ref 0), (2, .long l2), (4, .long l4), (6, .int l6)] [] (zs b, I, J) (F_X11_never_L38 l2 I J K l4 l6) := by
  intro K
  induction K with
  | zero => intro l4 l6; exact S.none
  | succ K ih =>
    intro l4 l6
    rw [F_X11_never_L38]
    refine S.iload 20 3 rfl rfl ?_
    refine S.aload_n 21 0 rfl rfl ?_
    refine S.getR 22 rfl fo_X11_60 rfl rfl rfl ?_
    refine S.getI 23 rfl fo_X11_245 rfl rfl ?_
    refine S.icmp_ge 88 24 rfl (by decide) (fun _ => ?_) (fun _ => ?_)
    · refine S.lload 43 2 rfl rfl ?_
      exact S.lret 44 rfl rfl (Nat.le_refl _) (Nat.le_refl _) rfl
    · refine S.aload_n 25 0 rfl rfl ?_
      refine S.getR 26 rfl fo_X11_60 rfl rfl rfl ?_
      refine S.iload 27 3 rfl rfl ?_
      refine S.lload_n 28 1 rfl rfl ?_
      refine S.qVI (d := 1) (av := [.int l6, .long l2]) (rs := [.long l2, .int l6]) (b := 30) 29 rfl co_X11_299 rfl rfl rfl rfl rfl ⟨⟨Nat.le_of_ble_eq_true rfl, Nat.le_of_ble_eq_true rfl⟩, ⟨Nat.le_of_ble_eq_true rfl, Nat.le_of_ble_eq_true rfl⟩, Nat.le_of_ble_eq_true rfl⟩ (cm_X8_isTurn b l6 l2 I J) (fun r8 => ?_)
      refine S.jn (fun j => ∀ (y9 : Int64), S (fL (zs b)) mX11_never (rmd 26 0 0) 0 0 (0, 0) 82 [(0, .ref 0), (2, .long l2), (4, .long y9), (6, .int l6)] [] (zs b, I, J) (j y9)) (fun y9 => ?_) (fun j10 hj10 => ?_)
      · refine S.iinc (l6 + 1) [(6, .int (l6 + 1)), (0, .ref 0), (2, .long l2), (4, .long y9)] 41 3 rfl rfl rfl (by decide) rfl ?_
        refine S.goto 38 42 rfl (by decide) ?_
        refine S.sub (lv' := [(0, .ref 0), (2, .long l2), (4, .long y9), (6, .int (l6 + 1))]) [1, 2, 3, 0] rfl ?_
        exact ih _ _
      · refine S.if_eq 82 30 rfl (by decide) (fun _ => ?_) (fun _ => ?_)
        · exact hj10 _
        · refine S.lload 31 2 rfl rfl ?_
          refine S.aload_n 32 0 rfl rfl ?_
          refine S.getR 33 rfl fo_X11_60 rfl rfl rfl ?_
          refine S.getR 34 rfl fo_X11_246 rfl rfl rfl ?_
          refine S.iload 35 3 rfl rfl ?_
          refine S.lald 36 rfl rfl ?_
          refine S.ldc2 (-1 : Int64) 37 rfl ko_X11_199 ?_
          refine S.lxor 38 rfl ?_
          refine S.land 39 rfl ?_
          refine S.nml (fun x11 => ?_)
          refine S.lstore [(4, .long x11), (0, .ref 0), (2, .long l2), (6, .int l6)] 40 rfl (by decide) rfl ?_
          refine S.sub (lv' := [(0, .ref 0), (2, .long l2), (4, .long x11), (6, .int l6)]) [1, 2, 0, 3] rfl ?_
          exact hj10 _
def F_X11_never (l1 : Int32) (I : HI) (J : HJ) : Option (Int64 × HI × HJ) :=
  cp (F_X11_isPicture l1) fun r3 =>
  if r3 = 0 then
    some ((-1 : Int64), I, J)
  else
    cl (F_X11_openTable I J) fun r4 I5 J6 =>
    if r4 = 0 then
      some ((-3 : Int64), I5, J6)
    else
      bx l1 4 <|
      lb ((J6 x_notes_pictures (Int32.toNatClampNeg l1))) fun x7 =>
      F_X11_never_L38 x7 I5 J6 bgf x7 (0 : Int32)
set_option maxRecDepth 100000 in
theorem cm_X11_never (b : Bool) (l1 : Int32) (I : HI) (J : HJ) : CM mX11_never 26 0 0 [.ref 0, .int l1] (zs b, I, J) (fL (zs b)) (F_X11_never l1 I J) := by
  refine S.of okX11_never pn_X11 (Nat.le_of_ble_eq_true rfl) ?_
  refine S.sub (lv' := [(0, .ref 0), (1, .int l1)]) [0, 1] rfl ?_
  unfold F_X11_never
  refine S.iload_n 0 1 rfl rfl ?_
  refine S.qSI (d := 1) (av := [.int l1]) (rs := [.int l1]) 1 rfl co_X11_276 rfl rfl ⟨⟨Nat.le_of_ble_eq_true rfl, Nat.le_of_ble_eq_true rfl⟩, ⟨Nat.le_of_ble_eq_true rfl, Nat.le_of_ble_eq_true rfl⟩, Nat.le_of_ble_eq_true rfl⟩ (cm_X11_isPicture (zs b, I, J) l1) (fun r3 => ?_)
  refine S.if_ne 11 2 rfl (by decide) (fun _ => ?_) (fun _ => ?_)
  · refine S.aload_n 5 0 rfl rfl ?_
    refine S.cVI (d := 25) (av := []) (rs := []) (b := 0) 6 rfl co_X11_241 rfl rfl rfl rfl rfl ⟨⟨Nat.le_of_ble_eq_true rfl, Nat.le_of_ble_eq_true rfl⟩, ⟨Nat.le_of_ble_eq_true rfl, Nat.le_of_ble_eq_true rfl⟩, Nat.le_of_ble_eq_true rfl⟩ (cm_X11_openTable b I J) (fun r4 I5 J6 => ?_)
    refine S.if_ne 22 7 rfl (by decide) (fun _ => ?_) (fun _ => ?_)
    · refine S.aload_n 10 0 rfl rfl ?_
      refine S.getR 11 rfl fo_X11_51 rfl rfl rfl ?_
      refine S.getR 12 rfl fo_X11_279 rfl rfl rfl ?_
      refine S.iload_n 13 1 rfl rfl ?_
      refine S.lald 14 rfl rfl ?_
      refine S.nml (fun x7 => ?_)
      refine S.lstore_n [(2, .long x7), (0, .ref 0), (1, .int l1)] 15 rfl (by decide) rfl ?_
      refine S.lload_n 16 0 rfl rfl ?_
      refine S.lstore [(4, .long x7), (2, .long x7), (0, .ref 0), (1, .int l1)] 17 rfl (by decide) rfl ?_
      refine S.iconst (0 : Int32) 18 rfl (by decide) ?_
      refine S.istore [(6, .int (0 : Int32)), (4, .long x7), (2, .long x7), (0, .ref 0), (1, .int l1)] 19 rfl (by decide) rfl ?_
      refine S.sub (lv' := [(0, .ref 0), (2, .long x7), (4, .long x7), (6, .int (0 : Int32))]) [3, 2, 1, 0] rfl ?_
      refine s_X11_never_L38 b _ _ _ bgf _ _
    · refine S.ldc2 (-3 : Int64) 8 rfl ko_X11_270 ?_
      exact S.lret 9 rfl rfl (Nat.le_refl _) (Nat.le_refl _) rfl
  · refine S.ldc2 (-1 : Int64) 3 rfl ko_X11_199 ?_
    exact S.lret 4 rfl rfl (Nat.le_refl _) (Nat.le_refl _) rfl
def F_X11_tellTurns_43_L9 (l2 : Int32) : Nat → Int32 → HI → HJ → Option (Unit × HI × HJ)
  | 0, _, _, _ => none
  | K+1, l3, I, J =>
    if l2 ≤ l3 then
      some ((), I, J)
    else
      if (12 : Int32) ≤ l3 then
        some ((), I, J)
      else
        bx l3 12 <|
        cl (F_X10_add (Int32.toInt64 (I x_parting_order (Int32.toNatClampNeg l3))) I J) fun _ I3 J4 =>
        F_X11_tellTurns_43_L9 l2 K (l3 + 1) I3 J4
set_option maxRecDepth 100000 in
theorem s_X11_tellTurns_43_L9 (b : Bool) (l2 : Int32) : ∀ (K : Nat) (l3 : Int32) (I : HI) (J : HJ), S (fV (zs b)) mX11_tellTurns (rmd 2 0 0) 0 0 (0, 0) 9 [(0, .ref 0), (1, .ref 43), (2, .int l2), (3, .int l3)] [] (zs b, I, J) (F_X11_tellTurns_43_L9 l2 K l3 I J) := by
  intro K
  induction K with
  | zero => intro l3 I J; exact S.none
  | succ K ih =>
    intro l3 I J
    rw [F_X11_tellTurns_43_L9]
    refine S.iload_n 5 3 rfl rfl ?_
    refine S.iload_n 6 2 rfl rfl ?_
    refine S.icmp_ge 37 7 rfl (by decide) (fun _ => ?_) (fun _ => ?_)
    · exact S.vret 21 rfl rfl (Nat.le_refl _) (Nat.le_refl _) rfl
    · refine S.iload_n 8 3 rfl rfl ?_
      refine S.aload_n 9 1 rfl rfl ?_
      refine S.alen (12 : Int32) 10 rfl rfl (by decide) (by decide) (by decide) ?_
      refine S.icmp_ge 37 11 rfl (by decide) (fun _ => ?_) (fun _ => ?_)
      · exact S.vret 21 rfl rfl (Nat.le_refl _) (Nat.le_refl _) rfl
      · refine S.aload_n 12 0 rfl rfl ?_
        refine S.getR 13 rfl fo_X11_35 rfl rfl rfl ?_
        refine S.aload_n 14 1 rfl rfl ?_
        refine S.iload_n 15 3 rfl rfl ?_
        refine S.iald 16 rfl rfl ?_
        refine S.i2l 17 rfl ?_
        refine S.cVV (d := 1) (av := [.long (Int32.toInt64 (I x_parting_order (Int32.toNatClampNeg l3)))]) (rs := [.long (Int32.toInt64 (I x_parting_order (Int32.toNatClampNeg l3)))]) (b := 15) 18 rfl co_X11_211 rfl rfl rfl rfl rfl ⟨⟨Nat.le_of_ble_eq_true rfl, Nat.le_of_ble_eq_true rfl⟩, ⟨Nat.le_of_ble_eq_true rfl, Nat.le_of_ble_eq_true rfl⟩, Nat.le_of_ble_eq_true rfl⟩ (cm_X10_add b (Int32.toInt64 (I x_parting_order (Int32.toNatClampNeg l3))) I J) (fun _ I3 J4 => ?_)
        refine S.iinc (l3 + 1) [(3, .int (l3 + 1)), (0, .ref 0), (1, .ref 43), (2, .int l2)] 19 3 rfl rfl rfl (by decide) rfl ?_
        refine S.goto 9 20 rfl (by decide) ?_
        refine S.sub (lv' := [(0, .ref 0), (1, .ref 43), (2, .int l2), (3, .int (l3 + 1))]) [1, 2, 3, 0] rfl ?_
        exact ih _ _ _
def F_X11_tellTurns_43 (l2 : Int32) (I : HI) (J : HJ) : Option (Unit × HI × HJ) :=
  cl (F_X10_clear I J) fun _ I1 J2 =>
  F_X11_tellTurns_43_L9 l2 bgf (0 : Int32) I1 J2
set_option maxRecDepth 100000 in
theorem cm_X11_tellTurns_43 (b : Bool) (l2 : Int32) (I : HI) (J : HJ) : CM mX11_tellTurns 2 0 0 [.ref 0, .ref 43, .int l2] (zs b, I, J) (fV (zs b)) (F_X11_tellTurns_43 l2 I J) := by
  refine S.of okX11_tellTurns pn_X11 (Nat.le_of_ble_eq_true rfl) ?_
  refine S.sub (lv' := [(0, .ref 0), (1, .ref 43), (2, .int l2)]) [0, 1, 2] rfl ?_
  unfold F_X11_tellTurns_43
  refine S.aload_n 0 0 rfl rfl ?_
  refine S.getR 1 rfl fo_X11_35 rfl rfl rfl ?_
  refine S.cVV (d := 1) (av := []) (rs := []) (b := 15) 2 rfl co_X11_205 rfl rfl rfl rfl rfl ⟨⟨Nat.le_of_ble_eq_true rfl, Nat.le_of_ble_eq_true rfl⟩, ⟨Nat.le_of_ble_eq_true rfl, Nat.le_of_ble_eq_true rfl⟩, Nat.le_of_ble_eq_true rfl⟩ (cm_X10_clear b I J) (fun _ I1 J2 => ?_)
  refine S.iconst (0 : Int32) 3 rfl (by decide) ?_
  refine S.istore_n [(3, .int (0 : Int32)), (0, .ref 0), (1, .ref 43), (2, .int l2)] 4 rfl (by decide) rfl ?_
  refine S.sub (lv' := [(0, .ref 0), (1, .ref 43), (2, .int l2), (3, .int (0 : Int32))]) [1, 2, 3, 0] rfl ?_
  refine s_X11_tellTurns_43_L9 b _ bgf _ _ _
def F_X11_changes (l1 : Int32) (I : HI) (J : HJ) : Option (Int32 × HI × HJ) :=
  cl (F_X11_partInto l1 I J) fun r1 I2 J3 =>
  if 0 ≤ r1 then
    if r1 ≤ (6 : Int32) then
      cl (F_X4_putInOrder I2 J3) fun r4 I5 J6 =>
      cl (F_X11_tellTurns_43 r1 I5 J6) fun _ I7 J8 =>
      some (r4, I7, J8)
    else
      some ((-5 : Int32), I2, J3)
  else
    some (r1, I2, J3)
set_option maxRecDepth 100000 in
theorem cm_X11_changes (b : Bool) (l1 : Int32) (I : HI) (J : HJ) : CM mX11_changes 27 0 0 [.ref 0, .int l1] (zs b, I, J) (fI (zs b)) (F_X11_changes l1 I J) := by
  refine S.of okX11_changes pn_X11 (Nat.le_of_ble_eq_true rfl) ?_
  refine S.sub (lv' := [(0, .ref 0), (1, .int l1)]) [0, 1] rfl ?_
  unfold F_X11_changes
  refine S.aload_n 0 0 rfl rfl ?_
  refine S.iload_n 1 1 rfl rfl ?_
  refine S.cVI (d := 26) (av := [.int l1]) (rs := [.int l1]) (b := 0) 2 rfl co_X11_282 rfl rfl rfl rfl rfl ⟨⟨Nat.le_of_ble_eq_true rfl, Nat.le_of_ble_eq_true rfl⟩, ⟨Nat.le_of_ble_eq_true rfl, Nat.le_of_ble_eq_true rfl⟩, Nat.le_of_ble_eq_true rfl⟩ (cm_X11_partInto b l1 I J) (fun r1 I2 J3 => ?_)
  refine S.istore_n [(2, .int r1), (0, .ref 0), (1, .int l1)] 3 rfl (by decide) rfl ?_
  refine S.iload_n 4 0 rfl rfl ?_
  refine S.if_ge 12 5 rfl (by decide) (fun _ => ?_) (fun _ => ?_)
  · refine S.iload_n 8 0 rfl rfl ?_
    refine S.bipush (6 : Int32) 9 rfl (by decide) ?_
    refine S.icmp_le 21 10 rfl (by decide) (fun _ => ?_) (fun _ => ?_)
    · refine S.aload_n 13 1 rfl rfl ?_
      refine S.getR 14 rfl fo_X11_69 rfl rfl rfl ?_
      refine S.cVI (d := 23) (av := []) (rs := []) (b := 36) 15 rfl co_X11_303 rfl rfl rfl rfl rfl ⟨⟨Nat.le_of_ble_eq_true rfl, Nat.le_of_ble_eq_true rfl⟩, ⟨Nat.le_of_ble_eq_true rfl, Nat.le_of_ble_eq_true rfl⟩, Nat.le_of_ble_eq_true rfl⟩ (cm_X4_putInOrder b I2 J3) (fun r4 I5 J6 => ?_)
      refine S.istore_n [(3, .int r4), (2, .int r1), (0, .ref 0), (1, .int l1)] 16 rfl (by decide) rfl ?_
      refine S.aload_n 17 2 rfl rfl ?_
      refine S.aload_n 18 2 rfl rfl ?_
      refine S.getR 19 rfl fo_X11_69 rfl rfl rfl ?_
      refine S.getR 20 rfl fo_X11_307 rfl rfl rfl ?_
      refine S.iload_n 21 1 rfl rfl ?_
      refine S.cVV (d := 2) (av := [.ref 43, .int r1]) (rs := [.int r1, .ref 43]) (b := 0) 22 rfl co_X11_289 rfl rfl rfl rfl rfl ⟨⟨Nat.le_of_ble_eq_true rfl, Nat.le_of_ble_eq_true rfl⟩, ⟨Nat.le_of_ble_eq_true rfl, Nat.le_of_ble_eq_true rfl⟩, Nat.le_of_ble_eq_true rfl⟩ (cm_X11_tellTurns_43 b r1 I5 J6) (fun _ I7 J8 => ?_)
      refine S.iload_n 23 0 rfl rfl ?_
      exact S.iret 24 rfl rfl rfl (Nat.le_refl _) (Nat.le_refl _) rfl
    · refine S.bipush (-5 : Int32) 11 rfl (by decide) ?_
      exact S.iret 12 rfl rfl rfl (Nat.le_refl _) (Nat.le_refl _) rfl
  · refine S.iload_n 6 0 rfl rfl ?_
    exact S.iret 7 rfl rfl rfl (Nat.le_refl _) (Nat.le_refl _) rfl
def F_X11_tellTurns_45_L9 (l2 : Int32) : Nat → Int32 → HI → HJ → Option (Unit × HI × HJ)
  | 0, _, _, _ => none
  | K+1, l3, I, J =>
    if l2 ≤ l3 then
      some ((), I, J)
    else
      if (12 : Int32) ≤ l3 then
        some ((), I, J)
      else
        bx l3 12 <|
        cl (F_X10_add (Int32.toInt64 (I x_parting_slots (Int32.toNatClampNeg l3))) I J) fun _ I3 J4 =>
        F_X11_tellTurns_45_L9 l2 K (l3 + 1) I3 J4
set_option maxRecDepth 100000 in
theorem s_X11_tellTurns_45_L9 (b : Bool) (l2 : Int32) : ∀ (K : Nat) (l3 : Int32) (I : HI) (J : HJ), S (fV (zs b)) mX11_tellTurns (rmd 2 0 0) 0 0 (0, 0) 9 [(0, .ref 0), (1, .ref 45), (2, .int l2), (3, .int l3)] [] (zs b, I, J) (F_X11_tellTurns_45_L9 l2 K l3 I J) := by
  intro K
  induction K with
  | zero => intro l3 I J; exact S.none
  | succ K ih =>
    intro l3 I J
    rw [F_X11_tellTurns_45_L9]
    refine S.iload_n 5 3 rfl rfl ?_
    refine S.iload_n 6 2 rfl rfl ?_
    refine S.icmp_ge 37 7 rfl (by decide) (fun _ => ?_) (fun _ => ?_)
    · exact S.vret 21 rfl rfl (Nat.le_refl _) (Nat.le_refl _) rfl
    · refine S.iload_n 8 3 rfl rfl ?_
      refine S.aload_n 9 1 rfl rfl ?_
      refine S.alen (12 : Int32) 10 rfl rfl (by decide) (by decide) (by decide) ?_
      refine S.icmp_ge 37 11 rfl (by decide) (fun _ => ?_) (fun _ => ?_)
      · exact S.vret 21 rfl rfl (Nat.le_refl _) (Nat.le_refl _) rfl
      · refine S.aload_n 12 0 rfl rfl ?_
        refine S.getR 13 rfl fo_X11_35 rfl rfl rfl ?_
        refine S.aload_n 14 1 rfl rfl ?_
        refine S.iload_n 15 3 rfl rfl ?_
        refine S.iald 16 rfl rfl ?_
        refine S.i2l 17 rfl ?_
        refine S.cVV (d := 1) (av := [.long (Int32.toInt64 (I x_parting_slots (Int32.toNatClampNeg l3)))]) (rs := [.long (Int32.toInt64 (I x_parting_slots (Int32.toNatClampNeg l3)))]) (b := 15) 18 rfl co_X11_211 rfl rfl rfl rfl rfl ⟨⟨Nat.le_of_ble_eq_true rfl, Nat.le_of_ble_eq_true rfl⟩, ⟨Nat.le_of_ble_eq_true rfl, Nat.le_of_ble_eq_true rfl⟩, Nat.le_of_ble_eq_true rfl⟩ (cm_X10_add b (Int32.toInt64 (I x_parting_slots (Int32.toNatClampNeg l3))) I J) (fun _ I3 J4 => ?_)
        refine S.iinc (l3 + 1) [(3, .int (l3 + 1)), (0, .ref 0), (1, .ref 45), (2, .int l2)] 19 3 rfl rfl rfl (by decide) rfl ?_
        refine S.goto 9 20 rfl (by decide) ?_
        refine S.sub (lv' := [(0, .ref 0), (1, .ref 45), (2, .int l2), (3, .int (l3 + 1))]) [1, 2, 3, 0] rfl ?_
        exact ih _ _ _
def F_X11_tellTurns_45 (l2 : Int32) (I : HI) (J : HJ) : Option (Unit × HI × HJ) :=
  cl (F_X10_clear I J) fun _ I1 J2 =>
  F_X11_tellTurns_45_L9 l2 bgf (0 : Int32) I1 J2
set_option maxRecDepth 100000 in
theorem cm_X11_tellTurns_45 (b : Bool) (l2 : Int32) (I : HI) (J : HJ) : CM mX11_tellTurns 2 0 0 [.ref 0, .ref 45, .int l2] (zs b, I, J) (fV (zs b)) (F_X11_tellTurns_45 l2 I J) := by
  refine S.of okX11_tellTurns pn_X11 (Nat.le_of_ble_eq_true rfl) ?_
  refine S.sub (lv' := [(0, .ref 0), (1, .ref 45), (2, .int l2)]) [0, 1, 2] rfl ?_
  unfold F_X11_tellTurns_45
  refine S.aload_n 0 0 rfl rfl ?_
  refine S.getR 1 rfl fo_X11_35 rfl rfl rfl ?_
  refine S.cVV (d := 1) (av := []) (rs := []) (b := 15) 2 rfl co_X11_205 rfl rfl rfl rfl rfl ⟨⟨Nat.le_of_ble_eq_true rfl, Nat.le_of_ble_eq_true rfl⟩, ⟨Nat.le_of_ble_eq_true rfl, Nat.le_of_ble_eq_true rfl⟩, Nat.le_of_ble_eq_true rfl⟩ (cm_X10_clear b I J) (fun _ I1 J2 => ?_)
  refine S.iconst (0 : Int32) 3 rfl (by decide) ?_
  refine S.istore_n [(3, .int (0 : Int32)), (0, .ref 0), (1, .ref 45), (2, .int l2)] 4 rfl (by decide) rfl ?_
  refine S.sub (lv' := [(0, .ref 0), (1, .ref 45), (2, .int l2), (3, .int (0 : Int32))]) [1, 2, 3, 0] rfl ?_
  refine s_X11_tellTurns_45_L9 b _ bgf _ _ _
def F_X11_even (l1 : Int32) (l2 : Int32) (I : HI) (J : HJ) : Option (Int64 × HI × HJ) :=
  cp (F_X11_isPicture l1) fun r1 =>
  if r1 = 0 then
    some ((-1 : Int64), I, J)
  else
    if l2 < (1 : Int32) then
      some ((-1 : Int64), I, J)
    else
      if l2 ≤ (200 : Int32) then
        cl (F_X11_partInto l1 I J) fun r2 I3 J4 =>
        if 0 ≤ r2 then
          if r2 ≤ l2 then
            cl (F_X4_giveSlots l2 I3 J4) fun r5 I6 J7 =>
            cl (F_X11_tellTurns_45 r2 I6 J7) fun _ I8 J9 =>
            some (r5, I8, J9)
          else
            some ((-2 : Int64), I3, J4)
        else
          some ((Int32.toInt64 r2), I3, J4)
      else
        some ((-1 : Int64), I, J)
set_option maxRecDepth 100000 in
theorem cm_X11_even (b : Bool) (l1 : Int32) (l2 : Int32) (I : HI) (J : HJ) : CM mX11_even 27 0 0 [.ref 0, .int l1, .int l2] (zs b, I, J) (fL (zs b)) (F_X11_even l1 l2 I J) := by
  refine S.of okX11_even pn_X11 (Nat.le_of_ble_eq_true rfl) ?_
  refine S.sub (lv' := [(0, .ref 0), (1, .int l1), (2, .int l2)]) [0, 1, 2] rfl ?_
  unfold F_X11_even
  refine S.iload_n 0 1 rfl rfl ?_
  refine S.qSI (d := 1) (av := [.int l1]) (rs := [.int l1]) 1 rfl co_X11_276 rfl rfl ⟨⟨Nat.le_of_ble_eq_true rfl, Nat.le_of_ble_eq_true rfl⟩, ⟨Nat.le_of_ble_eq_true rfl, Nat.le_of_ble_eq_true rfl⟩, Nat.le_of_ble_eq_true rfl⟩ (cm_X11_isPicture (zs b, I, J) l1) (fun r1 => ?_)
  refine S.if_eq 19 2 rfl (by decide) (fun _ => ?_) (fun _ => ?_)
  · refine S.ldc2 (-1 : Int64) 9 rfl ko_X11_199 ?_
    exact S.lret 10 rfl rfl (Nat.le_refl _) (Nat.le_refl _) rfl
  · refine S.iload_n 3 2 rfl rfl ?_
    refine S.iconst (1 : Int32) 4 rfl (by decide) ?_
    refine S.icmp_lt 19 5 rfl (by decide) (fun _ => ?_) (fun _ => ?_)
    · refine S.ldc2 (-1 : Int64) 9 rfl ko_X11_199 ?_
      exact S.lret 10 rfl rfl (Nat.le_refl _) (Nat.le_refl _) rfl
    · refine S.iload_n 6 2 rfl rfl ?_
      refine S.sipush (200 : Int32) 7 rfl (by decide) ?_
      refine S.icmp_le 23 8 rfl (by decide) (fun _ => ?_) (fun _ => ?_)
      · refine S.aload_n 11 0 rfl rfl ?_
        refine S.iload_n 12 1 rfl rfl ?_
        refine S.cVI (d := 26) (av := [.int l1]) (rs := [.int l1]) (b := 0) 13 rfl co_X11_282 rfl rfl rfl rfl rfl ⟨⟨Nat.le_of_ble_eq_true rfl, Nat.le_of_ble_eq_true rfl⟩, ⟨Nat.le_of_ble_eq_true rfl, Nat.le_of_ble_eq_true rfl⟩, Nat.le_of_ble_eq_true rfl⟩ (cm_X11_partInto b l1 I J) (fun r2 I3 J4 => ?_)
        refine S.istore_n [(3, .int r2), (0, .ref 0), (1, .int l1), (2, .int l2)] 14 rfl (by decide) rfl ?_
        refine S.iload_n 15 0 rfl rfl ?_
        refine S.if_ge 36 16 rfl (by decide) (fun _ => ?_) (fun _ => ?_)
        · refine S.iload_n 20 3 rfl rfl ?_
          refine S.iload_n 21 0 rfl rfl ?_
          refine S.icmp_ge 45 22 rfl (by decide) (fun _ => ?_) (fun _ => ?_)
          · refine S.aload_n 25 1 rfl rfl ?_
            refine S.getR 26 rfl fo_X11_69 rfl rfl rfl ?_
            refine S.iload_n 27 3 rfl rfl ?_
            refine S.cVL (d := 26) (av := [.int l2]) (rs := [.int l2]) (b := 36) 28 rfl co_X11_310 rfl rfl rfl rfl rfl ⟨⟨Nat.le_of_ble_eq_true rfl, Nat.le_of_ble_eq_true rfl⟩, ⟨Nat.le_of_ble_eq_true rfl, Nat.le_of_ble_eq_true rfl⟩, Nat.le_of_ble_eq_true rfl⟩ (cm_X4_giveSlots b l2 I3 J4) (fun r5 I6 J7 => ?_)
            refine S.lstore [(4, .long r5), (3, .int r2), (0, .ref 0), (1, .int l1), (2, .int l2)] 29 rfl (by decide) rfl ?_
            refine S.aload_n 30 2 rfl rfl ?_
            refine S.aload_n 31 2 rfl rfl ?_
            refine S.getR 32 rfl fo_X11_69 rfl rfl rfl ?_
            refine S.getR 33 rfl fo_X11_313 rfl rfl rfl ?_
            refine S.iload_n 34 1 rfl rfl ?_
            refine S.cVV (d := 2) (av := [.ref 45, .int r2]) (rs := [.int r2, .ref 45]) (b := 0) 35 rfl co_X11_289 rfl rfl rfl rfl rfl ⟨⟨Nat.le_of_ble_eq_true rfl, Nat.le_of_ble_eq_true rfl⟩, ⟨Nat.le_of_ble_eq_true rfl, Nat.le_of_ble_eq_true rfl⟩, Nat.le_of_ble_eq_true rfl⟩ (cm_X11_tellTurns_45 b r2 I6 J7) (fun _ I8 J9 => ?_)
            refine S.lload 36 0 rfl rfl ?_
            exact S.lret 37 rfl rfl (Nat.le_refl _) (Nat.le_refl _) rfl
          · refine S.ldc2 (-2 : Int64) 23 rfl ko_X11_223 ?_
            exact S.lret 24 rfl rfl (Nat.le_refl _) (Nat.le_refl _) rfl
        · refine S.iload_n 17 0 rfl rfl ?_
          refine S.i2l 18 rfl ?_
          exact S.lret 19 rfl rfl (Nat.le_refl _) (Nat.le_refl _) rfl
      · refine S.ldc2 (-1 : Int64) 9 rfl ko_X11_199 ?_
        exact S.lret 10 rfl rfl (Nat.le_refl _) (Nat.le_refl _) rfl
def F_X11_partTraded (l1 : Int64) (l3 : Int32) (l4 : Int32) (I : HI) (J : HJ) : Option (Int32 × HI × HJ) :=
  cl (F_X0_trade l3 l4 I J) fun _ I3 J4 =>
  lb (ui I3 x_table f_Table_fresh (0 : Int32)) fun I5 =>
  cl (F_X8_refresh I5 J4) fun _ I6 J7 =>
  cl (F_X4_open l1 I6 J7) fun _ I8 J9 =>
  cl (F_X4_part I8 J9) fun r10 I11 J12 =>
  cl (F_X0_trade l3 l4 I11 J12) fun _ I13 J14 =>
  lb (ui I13 x_table f_Table_fresh (0 : Int32)) fun I15 =>
  some (r10, I15, J14)
set_option maxRecDepth 100000 in
theorem cm_X11_partTraded (b : Bool) (l1 : Int64) (l3 : Int32) (l4 : Int32) (I : HI) (J : HJ) : CM mX11_partTraded 25 0 0 [.ref 0, .long l1, .int l3, .int l4] (zs b, I, J) (fI (zs b)) (F_X11_partTraded l1 l3 l4 I J) := by
  refine S.of okX11_partTraded pn_X11 (Nat.le_of_ble_eq_true rfl) ?_
  refine S.sub (lv' := [(0, .ref 0), (1, .long l1), (3, .int l3), (4, .int l4)]) [0, 1, 2, 3] rfl ?_
  unfold F_X11_partTraded
  refine S.aload_n 0 0 rfl rfl ?_
  refine S.getR 1 rfl fo_X11_10 rfl rfl rfl ?_
  refine S.iload_n 2 2 rfl rfl ?_
  refine S.iload 3 3 rfl rfl ?_
  refine S.cVV (d := 3) (av := [.int l3, .int l4]) (rs := [.int l4, .int l3]) (b := 1) 4 rfl co_X11_173 rfl rfl rfl rfl rfl ⟨⟨Nat.le_of_ble_eq_true rfl, Nat.le_of_ble_eq_true rfl⟩, ⟨Nat.le_of_ble_eq_true rfl, Nat.le_of_ble_eq_true rfl⟩, Nat.le_of_ble_eq_true rfl⟩ (cm_X0_trade b l3 l4 I J) (fun _ I3 J4 => ?_)
  refine S.aload_n 5 0 rfl rfl ?_
  refine S.getR 6 rfl fo_X11_60 rfl rfl rfl ?_
  refine S.iconst (0 : Int32) 7 rfl (by decide) ?_
  refine S.putI 8 rfl fo_X11_123 rfl rfl (by decide) (by decide) (fun _ hq => by cases hq; exact Or.inl rfl) (fun I5 => ?_)
  refine S.aload_n 9 0 rfl rfl ?_
  refine S.getR 10 rfl fo_X11_60 rfl rfl rfl ?_
  refine S.cVV (d := 24) (av := []) (rs := []) (b := 30) 11 rfl co_X11_429 rfl rfl rfl rfl rfl ⟨⟨Nat.le_of_ble_eq_true rfl, Nat.le_of_ble_eq_true rfl⟩, ⟨Nat.le_of_ble_eq_true rfl, Nat.le_of_ble_eq_true rfl⟩, Nat.le_of_ble_eq_true rfl⟩ (cm_X8_refresh b I5 J4) (fun _ I6 J7 => ?_)
  refine S.aload_n 12 0 rfl rfl ?_
  refine S.getR 13 rfl fo_X11_69 rfl rfl rfl ?_
  refine S.lload_n 14 1 rfl rfl ?_
  refine S.cVV (d := 2) (av := [.long l1]) (rs := [.long l1]) (b := 36) 15 rfl co_X11_432 rfl rfl rfl rfl rfl ⟨⟨Nat.le_of_ble_eq_true rfl, Nat.le_of_ble_eq_true rfl⟩, ⟨Nat.le_of_ble_eq_true rfl, Nat.le_of_ble_eq_true rfl⟩, Nat.le_of_ble_eq_true rfl⟩ (cm_X4_open b l1 I6 J7) (fun _ I8 J9 => ?_)
  refine S.aload_n 16 0 rfl rfl ?_
  refine S.getR 17 rfl fo_X11_69 rfl rfl rfl ?_
  refine S.cVI (d := 23) (av := []) (rs := []) (b := 36) 18 rfl co_X11_435 rfl rfl rfl rfl rfl ⟨⟨Nat.le_of_ble_eq_true rfl, Nat.le_of_ble_eq_true rfl⟩, ⟨Nat.le_of_ble_eq_true rfl, Nat.le_of_ble_eq_true rfl⟩, Nat.le_of_ble_eq_true rfl⟩ (cm_X4_part b I8 J9) (fun r10 I11 J12 => ?_)
  refine S.istore [(5, .int r10), (0, .ref 0), (1, .long l1), (3, .int l3), (4, .int l4)] 19 rfl (by decide) rfl ?_
  refine S.aload_n 20 1 rfl rfl ?_
  refine S.getR 21 rfl fo_X11_10 rfl rfl rfl ?_
  refine S.iload_n 22 3 rfl rfl ?_
  refine S.iload 23 4 rfl rfl ?_
  refine S.cVV (d := 3) (av := [.int l3, .int l4]) (rs := [.int l4, .int l3]) (b := 1) 24 rfl co_X11_173 rfl rfl rfl rfl rfl ⟨⟨Nat.le_of_ble_eq_true rfl, Nat.le_of_ble_eq_true rfl⟩, ⟨Nat.le_of_ble_eq_true rfl, Nat.le_of_ble_eq_true rfl⟩, Nat.le_of_ble_eq_true rfl⟩ (cm_X0_trade b l3 l4 I11 J12) (fun _ I13 J14 => ?_)
  refine S.aload_n 25 1 rfl rfl ?_
  refine S.getR 26 rfl fo_X11_60 rfl rfl rfl ?_
  refine S.iconst (0 : Int32) 27 rfl (by decide) ?_
  refine S.putI 28 rfl fo_X11_123 rfl rfl (by decide) (by decide) (fun _ hq => by cases hq; exact Or.inl rfl) (fun I15 => ?_)
  refine S.iload 29 0 rfl rfl ?_
  exact S.iret 30 rfl rfl rfl (Nat.le_refl _) (Nat.le_refl _) rfl
def F_X11_better_L82 (l1 : Int32) (l2 : Int32) (l6 : Int32) (kx145 : Int32 → Int32 → Int32 → HI → HJ → Option (Int32 × HI × HJ)) : Nat → Int32 → Int32 → Int32 → Int32 → HI → HJ → Option (Int32 × HI × HJ)
  | 0, _, _, _, _, _, _ => none
  | K+1, l3, l4, l5, l7, I, J =>
    if (I x_board f_Board_lamps) ≤ l7 then
      kx145 l3 l4 l5 I J
    else
      bx l1 4 <|
      cl (F_X11_partTraded (J x_notes_pictures (Int32.toNatClampNeg l1)) l6 l7 I J) fun r7 I8 J9 =>
      lb (fun (y10 : Int32) (y11 : Int32) (y12 : Int32) =>
      F_X11_better_L82 l1 l2 l6 kx145 K y10 y11 y12 (l7 + 1) I8 J9) fun j13 =>
      if r7 < 0 then
        j13 l3 l4 l5
      else
        lb (
        j13 r7 l6 l7) fun j14 =>
        if l3 < 0 then
          j14
        else
          if l3 ≤ r7 then
            j13 l3 l4 l5
          else
            j14
set_option maxRecDepth 100000 in
theorem s_X11_better_L82 (b : Bool) (l1 : Int32) (l2 : Int32) (l6 : Int32) (kx145 : Int32 → Int32 → Int32 → HI → HJ → Option (Int32 × HI × HJ)) (hkx145 : ∀ (y3 : Int32) (y4 : Int32) (y5 : Int32) (I1 : HI) (J1 : HJ), S (fI (zs b)) mX11_better (rmd 27 0 0) 0 0 (0, 0) 145 [(0, .ref 0), (1, .int l1), (2, .int l2), (3, .int y3), (4, .int y4), (5, .int y5), (6, .int l6)] [] (zs b, I1, J1) (kx145 y3 y4 y5 I1 J1)) : ∀ (K : Nat) (l3 : Int32) (l4 : Int32) (l5 : Int32) (l7 : Int32) (I : HI) (J : HJ), S (fI (zs b)) mX11_better (rmd 27 0 0) 0 0 (0, 0) 82 [(0, .ref 0), (1, .int l1), (2, .int l2), (3, .int l3), (4, .int l4), (5, .int l5), (6, .int l6), (7, .int l7)] [] (zs b, I, J) (F_X11_better_L82 l1 l2 l6 kx145 K l3 l4 l5 l7 I J) := by
  intro K
  induction K with
  | zero => intro l3 l4 l5 l7 I J; exact S.none
  | succ K ih =>
    intro l3 l4 l5 l7 I J
    rw [F_X11_better_L82]
    refine S.iload 43 7 rfl rfl ?_
    refine S.aload_n 44 0 rfl rfl ?_
    refine S.getR 45 rfl fo_X11_10 rfl rfl rfl ?_
    refine S.getI 46 rfl fo_X11_109 rfl rfl ?_
    refine S.icmp_ge 145 47 rfl (by decide) (fun _ => ?_) (fun _ => ?_)
    · refine S.sub (lv' := [(0, .ref 0), (1, .int l1), (2, .int l2), (3, .int l3), (4, .int l4), (5, .int l5), (6, .int l6)]) [0, 1, 2, 3, 4, 5, 6] rfl ?_
      exact hkx145 _ _ _ _ _
    · refine S.aload_n 48 0 rfl rfl ?_
      refine S.aload_n 49 0 rfl rfl ?_
      refine S.getR 50 rfl fo_X11_51 rfl rfl rfl ?_
      refine S.getR 51 rfl fo_X11_279 rfl rfl rfl ?_
      refine S.iload_n 52 1 rfl rfl ?_
      refine S.lald 53 rfl rfl ?_
      refine S.iload 54 6 rfl rfl ?_
      refine S.iload 55 7 rfl rfl ?_
      refine S.cVI (d := 25) (av := [.long (J x_notes_pictures (Int32.toNatClampNeg l1)), .int l6, .int l7]) (rs := [.int l7, .int l6, .long (J x_notes_pictures (Int32.toNatClampNeg l1))]) (b := 0) 56 rfl co_X11_314 rfl rfl rfl rfl rfl ⟨⟨Nat.le_of_ble_eq_true rfl, Nat.le_of_ble_eq_true rfl⟩, ⟨Nat.le_of_ble_eq_true rfl, Nat.le_of_ble_eq_true rfl⟩, Nat.le_of_ble_eq_true rfl⟩ (cm_X11_partTraded b (J x_notes_pictures (Int32.toNatClampNeg l1)) l6 l7 I J) (fun r7 I8 J9 => ?_)
      refine S.istore [(8, .int r7), (0, .ref 0), (1, .int l1), (2, .int l2), (3, .int l3), (4, .int l4), (5, .int l5), (6, .int l6), (7, .int l7)] 57 rfl (by decide) rfl ?_
      refine S.iload 58 0 rfl rfl ?_
      refine S.jn (fun j => ∀ (y10 : Int32) (y11 : Int32) (y12 : Int32), S (fI (zs b)) mX11_better (rmd 27 0 0) 0 0 (0, 0) 139 [(0, .ref 0), (1, .int l1), (2, .int l2), (3, .int y10), (4, .int y11), (5, .int y12), (6, .int l6), (7, .int l7)] [] (zs b, I8, J9) (j y10 y11 y12)) (fun y10 y11 y12 => ?_) (fun j13 hj13 => ?_)
      · refine S.iinc (l7 + 1) [(7, .int (l7 + 1)), (0, .ref 0), (1, .int l1), (2, .int l2), (3, .int y10), (4, .int y11), (5, .int y12), (6, .int l6)] 71 7 rfl rfl rfl (by decide) rfl ?_
        refine S.goto 82 72 rfl (by decide) ?_
        refine S.sub (lv' := [(0, .ref 0), (1, .int l1), (2, .int l2), (3, .int y10), (4, .int y11), (5, .int y12), (6, .int l6), (7, .int (l7 + 1))]) [1, 2, 3, 4, 5, 6, 7, 0] rfl ?_
        exact ih _ _ _ _ _ _
      · refine S.if_lt 139 59 rfl (by decide) (fun _ => ?_) (fun _ => ?_)
        · refine S.sub (lv' := [(0, .ref 0), (1, .int l1), (2, .int l2), (3, .int l3), (4, .int l4), (5, .int l5), (6, .int l6), (7, .int l7)]) [1, 2, 3, 4, 5, 6, 7, 8] rfl ?_
          exact hj13 _ _ _
        · refine S.iload_n 60 4 rfl rfl ?_
          refine S.jn (fun j => S (fI (zs b)) mX11_better (rmd 27 0 0) 0 0 (0, 0) 128 [(0, .ref 0), (1, .int l1), (2, .int l2), (6, .int l6), (7, .int l7), (8, .int r7)] [] (zs b, I8, J9) (j)) ?_ (fun j14 hj14 => ?_)
          · refine S.iload 65 5 rfl rfl ?_
            refine S.istore_n [(3, .int r7), (0, .ref 0), (1, .int l1), (2, .int l2), (6, .int l6), (7, .int l7), (8, .int r7)] 66 rfl (by decide) rfl ?_
            refine S.iload 67 4 rfl rfl ?_
            refine S.istore [(4, .int l6), (3, .int r7), (0, .ref 0), (1, .int l1), (2, .int l2), (6, .int l6), (7, .int l7), (8, .int r7)] 68 rfl (by decide) rfl ?_
            refine S.iload 69 6 rfl rfl ?_
            refine S.istore [(5, .int l7), (4, .int l6), (3, .int r7), (0, .ref 0), (1, .int l1), (2, .int l2), (6, .int l6), (7, .int l7), (8, .int r7)] 70 rfl (by decide) rfl ?_
            refine S.sub (lv' := [(0, .ref 0), (1, .int l1), (2, .int l2), (3, .int r7), (4, .int l6), (5, .int l7), (6, .int l6), (7, .int l7)]) [3, 4, 5, 2, 1, 0, 6, 7] rfl ?_
            exact hj13 _ _ _
          · refine S.if_lt 128 61 rfl (by decide) (fun _ => ?_) (fun _ => ?_)
            · refine S.sub (lv' := [(0, .ref 0), (1, .int l1), (2, .int l2), (6, .int l6), (7, .int l7), (8, .int r7)]) [1, 2, 3, 7, 8, 0] rfl ?_
              exact hj14
            · refine S.iload 62 0 rfl rfl ?_
              refine S.iload_n 63 4 rfl rfl ?_
              refine S.icmp_ge 139 64 rfl (by decide) (fun _ => ?_) (fun _ => ?_)
              · refine S.sub (lv' := [(0, .ref 0), (1, .int l1), (2, .int l2), (3, .int l3), (4, .int l4), (5, .int l5), (6, .int l6), (7, .int l7)]) [1, 2, 3, 4, 5, 6, 7, 8] rfl ?_
                exact hj13 _ _ _
              · refine S.sub (lv' := [(0, .ref 0), (1, .int l1), (2, .int l2), (6, .int l6), (7, .int l7), (8, .int r7)]) [1, 2, 3, 7, 8, 0] rfl ?_
                exact hj14
def F_X11_better_L64 (l1 : Int32) (l2 : Int32) (kx151 : Int32 → Int32 → Int32 → HI → HJ → Option (Int32 × HI × HJ)) : Nat → Int32 → Int32 → Int32 → Int32 → HI → HJ → Option (Int32 × HI × HJ)
  | 0, _, _, _, _, _, _ => none
  | K+1, l3, l4, l5, l6, I, J =>
    if (I x_board f_Board_lamps) ≤ l6 then
      kx151 l3 l4 l5 I J
    else
      lb ((l6 + (1 : Int32))) fun x6 =>
      F_X11_better_L82 l1 l2 l6 (fun (y15 : Int32) (y16 : Int32) (y17 : Int32) (I18 : HI) (J19 : HJ) =>
      F_X11_better_L64 l1 l2 kx151 K y15 y16 y17 (l6 + 1) I18 J19) bgf l3 l4 l5 x6 I J
set_option maxRecDepth 100000 in
theorem s_X11_better_L64 (b : Bool) (l1 : Int32) (l2 : Int32) (kx151 : Int32 → Int32 → Int32 → HI → HJ → Option (Int32 × HI × HJ)) (hkx151 : ∀ (y3 : Int32) (y4 : Int32) (y5 : Int32) (I1 : HI) (J1 : HJ), S (fI (zs b)) mX11_better (rmd 27 0 0) 0 0 (0, 0) 151 [(0, .ref 0), (2, .int l2), (3, .int y3), (4, .int y4), (5, .int y5)] [] (zs b, I1, J1) (kx151 y3 y4 y5 I1 J1)) : ∀ (K : Nat) (l3 : Int32) (l4 : Int32) (l5 : Int32) (l6 : Int32) (I : HI) (J : HJ), S (fI (zs b)) mX11_better (rmd 27 0 0) 0 0 (0, 0) 64 [(0, .ref 0), (1, .int l1), (2, .int l2), (3, .int l3), (4, .int l4), (5, .int l5), (6, .int l6)] [] (zs b, I, J) (F_X11_better_L64 l1 l2 kx151 K l3 l4 l5 l6 I J) := by
  intro K
  induction K with
  | zero => intro l3 l4 l5 l6 I J; exact S.none
  | succ K ih =>
    intro l3 l4 l5 l6 I J
    rw [F_X11_better_L64]
    refine S.iload 34 6 rfl rfl ?_
    refine S.aload_n 35 0 rfl rfl ?_
    refine S.getR 36 rfl fo_X11_10 rfl rfl rfl ?_
    refine S.getI 37 rfl fo_X11_109 rfl rfl ?_
    refine S.icmp_ge 151 38 rfl (by decide) (fun _ => ?_) (fun _ => ?_)
    · refine S.sub (lv' := [(0, .ref 0), (2, .int l2), (3, .int l3), (4, .int l4), (5, .int l5)]) [0, 2, 3, 4, 5] rfl ?_
      exact hkx151 _ _ _ _ _
    · refine S.iload 39 6 rfl rfl ?_
      refine S.iconst (1 : Int32) 40 rfl (by decide) ?_
      refine S.iadd 41 rfl ?_
      refine S.nmi (fun x6 => ?_)
      refine S.istore [(7, .int x6), (0, .ref 0), (1, .int l1), (2, .int l2), (3, .int l3), (4, .int l4), (5, .int l5), (6, .int l6)] 42 rfl (by decide) rfl ?_
      refine S.sub (lv' := [(0, .ref 0), (1, .int l1), (2, .int l2), (3, .int l3), (4, .int l4), (5, .int l5), (6, .int l6), (7, .int x6)]) [1, 2, 3, 4, 5, 6, 7, 0] rfl ?_
      refine s_X11_better_L82 b _ _ _ _ (fun y15 y16 y17 I18 J19 => ?_) bgf _ _ _ _ _ _
      refine S.iinc (l6 + 1) [(6, .int (l6 + 1)), (0, .ref 0), (1, .int l1), (2, .int l2), (3, .int y15), (4, .int y16), (5, .int y17)] 73 6 rfl rfl rfl (by decide) rfl ?_
      refine S.goto 64 74 rfl (by decide) ?_
      refine S.sub (lv' := [(0, .ref 0), (1, .int l1), (2, .int l2), (3, .int y15), (4, .int y16), (5, .int y17), (6, .int (l6 + 1))]) [1, 2, 3, 4, 5, 6, 0] rfl ?_
      exact ih _ _ _ _ _ _
def F_X11_better (l1 : Int32) (I : HI) (J : HJ) : Option (Int32 × HI × HJ) :=
  cp (F_X11_isPicture l1) fun r2 =>
  if r2 = 0 then
    some ((-1 : Int32), I, J)
  else
    if (2 : Int32) ≤ (I x_board f_Board_lamps) then
      if (4 : Int32) < (I x_board f_Board_wide) then
        some ((-3 : Int32), I, J)
      else
        if (I x_board f_Board_lamps) ≤ (12 : Int32) then
          cl (F_X11_partInto l1 I J) fun r3 I4 J5 =>
          F_X11_better_L64 l1 r3 (fun (y20 : Int32) (y21 : Int32) (y22 : Int32) (I23 : HI) (J24 : HJ) =>
          if y20 < 0 then
            some (y20, I23, J24)
          else
            cl (F_X10_clear I23 J24) fun _ I25 J26 =>
            cl (F_X10_add (Int32.toInt64 y21) I25 J26) fun _ I27 J28 =>
            cl (F_X10_add (Int32.toInt64 y22) I27 J28) fun _ I29 J30 =>
            cl (F_X10_add (Int32.toInt64 r3) I29 J30) fun _ I31 J32 =>
            some (y20, I31, J32)) bgf (-2 : Int32) (-1 : Int32) (-1 : Int32) (0 : Int32) I4 J5
        else
          some ((-3 : Int32), I, J)
    else
      some ((-1 : Int32), I, J)
set_option maxRecDepth 100000 in
theorem cm_X11_better (b : Bool) (l1 : Int32) (I : HI) (J : HJ) : CM mX11_better 27 0 0 [.ref 0, .int l1] (zs b, I, J) (fI (zs b)) (F_X11_better l1 I J) := by
  refine S.of okX11_better pn_X11 (Nat.le_of_ble_eq_true rfl) ?_
  refine S.sub (lv' := [(0, .ref 0), (1, .int l1)]) [0, 1] rfl ?_
  unfold F_X11_better
  refine S.iload_n 0 1 rfl rfl ?_
  refine S.qSI (d := 1) (av := [.int l1]) (rs := [.int l1]) 1 rfl co_X11_276 rfl rfl ⟨⟨Nat.le_of_ble_eq_true rfl, Nat.le_of_ble_eq_true rfl⟩, ⟨Nat.le_of_ble_eq_true rfl, Nat.le_of_ble_eq_true rfl⟩, Nat.le_of_ble_eq_true rfl⟩ (cm_X11_isPicture (zs b, I, J) l1) (fun r2 => ?_)
  refine S.if_eq 18 2 rfl (by decide) (fun _ => ?_) (fun _ => ?_)
  · refine S.iconst (-1 : Int32) 8 rfl (by decide) ?_
    exact S.iret 9 rfl rfl rfl (Nat.le_refl _) (Nat.le_refl _) rfl
  · refine S.aload_n 3 0 rfl rfl ?_
    refine S.getR 4 rfl fo_X11_10 rfl rfl rfl ?_
    refine S.getI 5 rfl fo_X11_109 rfl rfl ?_
    refine S.iconst (2 : Int32) 6 rfl (by decide) ?_
    refine S.icmp_ge 20 7 rfl (by decide) (fun _ => ?_) (fun _ => ?_)
    · refine S.aload_n 10 0 rfl rfl ?_
      refine S.getR 11 rfl fo_X11_10 rfl rfl rfl ?_
      refine S.getI 12 rfl fo_X11_106 rfl rfl ?_
      refine S.iconst (4 : Int32) 13 rfl (by decide) ?_
      refine S.icmp_gt 43 14 rfl (by decide) (fun _ => ?_) (fun _ => ?_)
      · refine S.bipush (-3 : Int32) 20 rfl (by decide) ?_
        exact S.iret 21 rfl rfl rfl (Nat.le_refl _) (Nat.le_refl _) rfl
      · refine S.aload_n 15 0 rfl rfl ?_
        refine S.getR 16 rfl fo_X11_10 rfl rfl rfl ?_
        refine S.getI 17 rfl fo_X11_109 rfl rfl ?_
        refine S.bipush (12 : Int32) 18 rfl (by decide) ?_
        refine S.icmp_le 46 19 rfl (by decide) (fun _ => ?_) (fun _ => ?_)
        · refine S.aload_n 22 0 rfl rfl ?_
          refine S.iload_n 23 1 rfl rfl ?_
          refine S.cVI (d := 26) (av := [.int l1]) (rs := [.int l1]) (b := 0) 24 rfl co_X11_282 rfl rfl rfl rfl rfl ⟨⟨Nat.le_of_ble_eq_true rfl, Nat.le_of_ble_eq_true rfl⟩, ⟨Nat.le_of_ble_eq_true rfl, Nat.le_of_ble_eq_true rfl⟩, Nat.le_of_ble_eq_true rfl⟩ (cm_X11_partInto b l1 I J) (fun r3 I4 J5 => ?_)
          refine S.istore_n [(2, .int r3), (0, .ref 0), (1, .int l1)] 25 rfl (by decide) rfl ?_
          refine S.bipush (-2 : Int32) 26 rfl (by decide) ?_
          refine S.istore_n [(3, .int (-2 : Int32)), (2, .int r3), (0, .ref 0), (1, .int l1)] 27 rfl (by decide) rfl ?_
          refine S.iconst (-1 : Int32) 28 rfl (by decide) ?_
          refine S.istore [(4, .int (-1 : Int32)), (3, .int (-2 : Int32)), (2, .int r3), (0, .ref 0), (1, .int l1)] 29 rfl (by decide) rfl ?_
          refine S.iconst (-1 : Int32) 30 rfl (by decide) ?_
          refine S.istore [(5, .int (-1 : Int32)), (4, .int (-1 : Int32)), (3, .int (-2 : Int32)), (2, .int r3), (0, .ref 0), (1, .int l1)] 31 rfl (by decide) rfl ?_
          refine S.iconst (0 : Int32) 32 rfl (by decide) ?_
          refine S.istore [(6, .int (0 : Int32)), (5, .int (-1 : Int32)), (4, .int (-1 : Int32)), (3, .int (-2 : Int32)), (2, .int r3), (0, .ref 0), (1, .int l1)] 33 rfl (by decide) rfl ?_
          refine S.sub (lv' := [(0, .ref 0), (1, .int l1), (2, .int r3), (3, .int (-2 : Int32)), (4, .int (-1 : Int32)), (5, .int (-1 : Int32)), (6, .int (0 : Int32))]) [5, 6, 4, 3, 2, 1, 0] rfl ?_
          refine s_X11_better_L64 b _ _ _ (fun y20 y21 y22 I23 J24 => ?_) bgf _ _ _ _ _ _
          refine S.iload_n 75 2 rfl rfl ?_
          refine S.if_lt 191 76 rfl (by decide) (fun _ => ?_) (fun _ => ?_)
          · refine S.iload_n 95 2 rfl rfl ?_
            exact S.iret 96 rfl rfl rfl (Nat.le_refl _) (Nat.le_refl _) rfl
          · refine S.aload_n 77 0 rfl rfl ?_
            refine S.getR 78 rfl fo_X11_35 rfl rfl rfl ?_
            refine S.cVV (d := 1) (av := []) (rs := []) (b := 15) 79 rfl co_X11_205 rfl rfl rfl rfl rfl ⟨⟨Nat.le_of_ble_eq_true rfl, Nat.le_of_ble_eq_true rfl⟩, ⟨Nat.le_of_ble_eq_true rfl, Nat.le_of_ble_eq_true rfl⟩, Nat.le_of_ble_eq_true rfl⟩ (cm_X10_clear b I23 J24) (fun _ I25 J26 => ?_)
            refine S.aload_n 80 0 rfl rfl ?_
            refine S.getR 81 rfl fo_X11_35 rfl rfl rfl ?_
            refine S.iload 82 3 rfl rfl ?_
            refine S.i2l 83 rfl ?_
            refine S.cVV (d := 1) (av := [.long (Int32.toInt64 y21)]) (rs := [.long (Int32.toInt64 y21)]) (b := 15) 84 rfl co_X11_211 rfl rfl rfl rfl rfl ⟨⟨Nat.le_of_ble_eq_true rfl, Nat.le_of_ble_eq_true rfl⟩, ⟨Nat.le_of_ble_eq_true rfl, Nat.le_of_ble_eq_true rfl⟩, Nat.le_of_ble_eq_true rfl⟩ (cm_X10_add b (Int32.toInt64 y21) I25 J26) (fun _ I27 J28 => ?_)
            refine S.aload_n 85 0 rfl rfl ?_
            refine S.getR 86 rfl fo_X11_35 rfl rfl rfl ?_
            refine S.iload 87 4 rfl rfl ?_
            refine S.i2l 88 rfl ?_
            refine S.cVV (d := 1) (av := [.long (Int32.toInt64 y22)]) (rs := [.long (Int32.toInt64 y22)]) (b := 15) 89 rfl co_X11_211 rfl rfl rfl rfl rfl ⟨⟨Nat.le_of_ble_eq_true rfl, Nat.le_of_ble_eq_true rfl⟩, ⟨Nat.le_of_ble_eq_true rfl, Nat.le_of_ble_eq_true rfl⟩, Nat.le_of_ble_eq_true rfl⟩ (cm_X10_add b (Int32.toInt64 y22) I27 J28) (fun _ I29 J30 => ?_)
            refine S.aload_n 90 0 rfl rfl ?_
            refine S.getR 91 rfl fo_X11_35 rfl rfl rfl ?_
            refine S.iload_n 92 1 rfl rfl ?_
            refine S.i2l 93 rfl ?_
            refine S.cVV (d := 1) (av := [.long (Int32.toInt64 r3)]) (rs := [.long (Int32.toInt64 r3)]) (b := 15) 94 rfl co_X11_211 rfl rfl rfl rfl rfl ⟨⟨Nat.le_of_ble_eq_true rfl, Nat.le_of_ble_eq_true rfl⟩, ⟨Nat.le_of_ble_eq_true rfl, Nat.le_of_ble_eq_true rfl⟩, Nat.le_of_ble_eq_true rfl⟩ (cm_X10_add b (Int32.toInt64 r3) I29 J30) (fun _ I31 J32 => ?_)
            refine S.iload_n 95 2 rfl rfl ?_
            exact S.iret 96 rfl rfl rfl (Nat.le_refl _) (Nat.le_refl _) rfl
        · refine S.bipush (-3 : Int32) 20 rfl (by decide) ?_
          exact S.iret 21 rfl rfl rfl (Nat.le_refl _) (Nat.le_refl _) rfl
    · refine S.iconst (-1 : Int32) 8 rfl (by decide) ?_
      exact S.iret 9 rfl rfl rfl (Nat.le_refl _) (Nat.le_refl _) rfl
def F_X11_faults  (I : HI) (J : HJ) : Option (Int32 × HI × HJ) :=
  cl (F_X10_clear I J) fun _ I1 J2 =>
  cp (F_X7_firstTouch I1 J2) fun r3 =>
  cl (F_X10_add (Int32.toInt64 r3) I1 J2) fun _ I4 J5 =>
  cp (F_X7_firstTurned I4 J5) fun r6 =>
  cl (F_X10_add (Int32.toInt64 r6) I4 J5) fun _ I7 J8 =>
  cp (F_X7_size I7 J8) fun r9 =>
  some (r9, I7, J8)
set_option maxRecDepth 100000 in
theorem cm_X11_faults (b : Bool)  (I : HI) (J : HJ) : CM mX11_faults 4 0 0 [.ref 0] (zs b, I, J) (fI (zs b)) (F_X11_faults  I J) := by
  refine S.of okX11_faults pn_X11 (Nat.le_of_ble_eq_true rfl) ?_
  refine S.sub (lv' := [(0, .ref 0)]) [0] rfl ?_
  unfold F_X11_faults
  refine S.aload_n 0 0 rfl rfl ?_
  refine S.getR 1 rfl fo_X11_35 rfl rfl rfl ?_
  refine S.cVV (d := 1) (av := []) (rs := []) (b := 15) 2 rfl co_X11_205 rfl rfl rfl rfl rfl ⟨⟨Nat.le_of_ble_eq_true rfl, Nat.le_of_ble_eq_true rfl⟩, ⟨Nat.le_of_ble_eq_true rfl, Nat.le_of_ble_eq_true rfl⟩, Nat.le_of_ble_eq_true rfl⟩ (cm_X10_clear b I J) (fun _ I1 J2 => ?_)
  refine S.aload_n 3 0 rfl rfl ?_
  refine S.getR 4 rfl fo_X11_35 rfl rfl rfl ?_
  refine S.aload_n 5 0 rfl rfl ?_
  refine S.getR 6 rfl fo_X11_78 rfl rfl rfl ?_
  refine S.qVI (d := 1) (av := []) (rs := []) (b := 48) 7 rfl co_X11_318 rfl rfl rfl rfl rfl ⟨⟨Nat.le_of_ble_eq_true rfl, Nat.le_of_ble_eq_true rfl⟩, ⟨Nat.le_of_ble_eq_true rfl, Nat.le_of_ble_eq_true rfl⟩, Nat.le_of_ble_eq_true rfl⟩ (cm_X7_firstTouch b I1 J2) (fun r3 => ?_)
  refine S.i2l 8 rfl ?_
  refine S.cVV (d := 1) (av := [.long (Int32.toInt64 r3)]) (rs := [.long (Int32.toInt64 r3)]) (b := 15) 9 rfl co_X11_211 rfl rfl rfl rfl rfl ⟨⟨Nat.le_of_ble_eq_true rfl, Nat.le_of_ble_eq_true rfl⟩, ⟨Nat.le_of_ble_eq_true rfl, Nat.le_of_ble_eq_true rfl⟩, Nat.le_of_ble_eq_true rfl⟩ (cm_X10_add b (Int32.toInt64 r3) I1 J2) (fun _ I4 J5 => ?_)
  refine S.aload_n 10 0 rfl rfl ?_
  refine S.getR 11 rfl fo_X11_35 rfl rfl rfl ?_
  refine S.aload_n 12 0 rfl rfl ?_
  refine S.getR 13 rfl fo_X11_78 rfl rfl rfl ?_
  refine S.qVI (d := 2) (av := []) (rs := []) (b := 48) 14 rfl co_X11_321 rfl rfl rfl rfl rfl ⟨⟨Nat.le_of_ble_eq_true rfl, Nat.le_of_ble_eq_true rfl⟩, ⟨Nat.le_of_ble_eq_true rfl, Nat.le_of_ble_eq_true rfl⟩, Nat.le_of_ble_eq_true rfl⟩ (cm_X7_firstTurned b I4 J5) (fun r6 => ?_)
  refine S.i2l 15 rfl ?_
  refine S.cVV (d := 1) (av := [.long (Int32.toInt64 r6)]) (rs := [.long (Int32.toInt64 r6)]) (b := 15) 16 rfl co_X11_211 rfl rfl rfl rfl rfl ⟨⟨Nat.le_of_ble_eq_true rfl, Nat.le_of_ble_eq_true rfl⟩, ⟨Nat.le_of_ble_eq_true rfl, Nat.le_of_ble_eq_true rfl⟩, Nat.le_of_ble_eq_true rfl⟩ (cm_X10_add b (Int32.toInt64 r6) I4 J5) (fun _ I7 J8 => ?_)
  refine S.aload_n 17 0 rfl rfl ?_
  refine S.getR 18 rfl fo_X11_78 rfl rfl rfl ?_
  refine S.qVI (d := 3) (av := []) (rs := []) (b := 48) 19 rfl co_X11_324 rfl rfl rfl rfl rfl ⟨⟨Nat.le_of_ble_eq_true rfl, Nat.le_of_ble_eq_true rfl⟩, ⟨Nat.le_of_ble_eq_true rfl, Nat.le_of_ble_eq_true rfl⟩, Nat.le_of_ble_eq_true rfl⟩ (cm_X7_size b I7 J8) (fun r9 => ?_)
  exact S.iret 20 rfl rfl rfl (Nat.le_refl _) (Nat.le_refl _) rfl
def F_X11_would (l1 : Int32) (l2 : Int32) (l3 : Int32) (I : HI) (J : HJ) : Option (Int64 × HI × HJ) :=
  cp (F_X7_has l1 I J) fun r1 =>
  if r1 = 0 then
    some ((-1 : Int64), I, J)
  else
    cp (F_X0_hasSetting l2 l3 I J) fun r2 =>
    if r2 = 0 then
      some ((-1 : Int64), I, J)
    else
      cl (F_X7_glowWith l1 l2 l3 I J) fun r3 I4 J5 =>
      some (r3, I4, J5)
set_option maxRecDepth 100000 in
theorem cm_X11_would (b : Bool) (l1 : Int32) (l2 : Int32) (l3 : Int32) (I : HI) (J : HJ) : CM mX11_would 25 0 0 [.ref 0, .int l1, .int l2, .int l3] (zs b, I, J) (fL (zs b)) (F_X11_would l1 l2 l3 I J) := by
  refine S.of okX11_would pn_X11 (Nat.le_of_ble_eq_true rfl) ?_
  refine S.sub (lv' := [(0, .ref 0), (1, .int l1), (2, .int l2), (3, .int l3)]) [0, 1, 2, 3] rfl ?_
  unfold F_X11_would
  refine S.aload_n 0 0 rfl rfl ?_
  refine S.getR 1 rfl fo_X11_78 rfl rfl rfl ?_
  refine S.iload_n 2 1 rfl rfl ?_
  refine S.qVI (d := 4) (av := [.int l1]) (rs := [.int l1]) (b := 48) 3 rfl co_X11_326 rfl rfl rfl rfl rfl ⟨⟨Nat.le_of_ble_eq_true rfl, Nat.le_of_ble_eq_true rfl⟩, ⟨Nat.le_of_ble_eq_true rfl, Nat.le_of_ble_eq_true rfl⟩, Nat.le_of_ble_eq_true rfl⟩ (cm_X7_has b l1 I J) (fun r1 => ?_)
  refine S.if_eq 23 4 rfl (by decide) (fun _ => ?_) (fun _ => ?_)
  · refine S.ldc2 (-1 : Int64) 11 rfl ko_X11_199 ?_
    exact S.lret 12 rfl rfl (Nat.le_refl _) (Nat.le_refl _) rfl
  · refine S.aload_n 5 0 rfl rfl ?_
    refine S.getR 6 rfl fo_X11_10 rfl rfl rfl ?_
    refine S.iload_n 7 2 rfl rfl ?_
    refine S.iload_n 8 3 rfl rfl ?_
    refine S.qVI (d := 1) (av := [.int l2, .int l3]) (rs := [.int l3, .int l2]) (b := 1) 9 rfl co_X11_177 rfl rfl rfl rfl rfl ⟨⟨Nat.le_of_ble_eq_true rfl, Nat.le_of_ble_eq_true rfl⟩, ⟨Nat.le_of_ble_eq_true rfl, Nat.le_of_ble_eq_true rfl⟩, Nat.le_of_ble_eq_true rfl⟩ (cm_X0_hasSetting b l2 l3 I J) (fun r2 => ?_)
    refine S.if_ne 27 10 rfl (by decide) (fun _ => ?_) (fun _ => ?_)
    · refine S.aload_n 13 0 rfl rfl ?_
      refine S.getR 14 rfl fo_X11_78 rfl rfl rfl ?_
      refine S.iload_n 15 1 rfl rfl ?_
      refine S.iload_n 16 2 rfl rfl ?_
      refine S.iload_n 17 3 rfl rfl ?_
      refine S.cVL (d := 24) (av := [.int l1, .int l2, .int l3]) (rs := [.int l3, .int l2, .int l1]) (b := 48) 18 rfl co_X11_338 rfl rfl rfl rfl rfl ⟨⟨Nat.le_of_ble_eq_true rfl, Nat.le_of_ble_eq_true rfl⟩, ⟨Nat.le_of_ble_eq_true rfl, Nat.le_of_ble_eq_true rfl⟩, Nat.le_of_ble_eq_true rfl⟩ (cm_X7_glowWith b l1 l2 l3 I J) (fun r3 I4 J5 => ?_)
      exact S.lret 19 rfl rfl (Nat.le_refl _) (Nat.le_refl _) rfl
    · refine S.ldc2 (-1 : Int64) 11 rfl ko_X11_199 ?_
      exact S.lret 12 rfl rfl (Nat.le_refl _) (Nat.le_refl _) rfl
def F_X11_tells_L46 (l1 : Int32) : Nat → Int32 → Int32 → Int32 → HI → HJ → Option (Int32 × HI × HJ)
  | 0, _, _, _, _, _ => none
  | K+1, l2, l3, l4, I, J =>
    if (2187 : Int32) ≤ l4 then
      some (l2, I, J)
    else
      if l3 = (-1 : Int32) then
        some (l2, I, J)
      else
        lb (fun (I10 : HI) (J11 : HJ) =>
        cl (F_X7_firstParting (0 : Int32) l1 (l3 + (1 : Int32)) I10 J11) fun r13 I14 J15 =>
        F_X11_tells_L46 l1 K (l2 + 1) r13 (l4 + 1) I14 J15) fun j12 =>
        if l2 = 0 then
          cl (F_X10_add (Int32.toInt64 l3) I J) fun _ I16 J17 =>
          j12 I16 J17
        else
          j12 I J
set_option maxRecDepth 100000 in
theorem s_X11_tells_L46 (b : Bool) (l1 : Int32) : ∀ (K : Nat) (l2 : Int32) (l3 : Int32) (l4 : Int32) (I : HI) (J : HJ), S (fI (zs b)) mX11_tells (rmd 27 0 0) 0 0 (0, 0) 46 [(0, .ref 0), (1, .int l1), (2, .int l2), (3, .int l3), (4, .int l4)] [] (zs b, I, J) (F_X11_tells_L46 l1 K l2 l3 l4 I J) := by
  intro K
  induction K with
  | zero => intro l2 l3 l4 I J; exact S.none
  | succ K ih =>
    intro l2 l3 l4 I J
    rw [F_X11_tells_L46]
    refine S.iload 26 4 rfl rfl ?_
    refine S.sipush (2187 : Int32) 27 rfl (by decide) ?_
    refine S.icmp_ge 94 28 rfl (by decide) (fun _ => ?_) (fun _ => ?_)
    · refine S.iload_n 51 2 rfl rfl ?_
      exact S.iret 52 rfl rfl rfl (Nat.le_refl _) (Nat.le_refl _) rfl
    · refine S.iload_n 29 3 rfl rfl ?_
      refine S.iconst (-1 : Int32) 30 rfl (by decide) ?_
      refine S.icmp_eq 94 31 rfl (by decide) (fun _ => ?_) (fun _ => ?_)
      · refine S.iload_n 51 2 rfl rfl ?_
        exact S.iret 52 rfl rfl rfl (Nat.le_refl _) (Nat.le_refl _) rfl
      · refine S.iload_n 32 2 rfl rfl ?_
        refine S.jn (fun j => ∀ (I10 : HI) (J11 : HJ), S (fI (zs b)) mX11_tells (rmd 27 0 0) 0 0 (0, 0) 72 [(0, .ref 0), (1, .int l1), (2, .int l2), (3, .int l3), (4, .int l4)] [] (zs b, I10, J11) (j I10 J11)) (fun I10 J11 => ?_) (fun j12 hj12 => ?_)
        · refine S.iinc (l2 + 1) [(2, .int (l2 + 1)), (0, .ref 0), (1, .int l1), (3, .int l3), (4, .int l4)] 39 2 rfl rfl rfl (by decide) rfl ?_
          refine S.aload_n 40 1 rfl rfl ?_
          refine S.getR 41 rfl fo_X11_78 rfl rfl rfl ?_
          refine S.iconst (0 : Int32) 42 rfl (by decide) ?_
          refine S.iload_n 43 2 rfl rfl ?_
          refine S.iload_n 44 3 rfl rfl ?_
          refine S.iconst (1 : Int32) 45 rfl (by decide) ?_
          refine S.iadd 46 rfl ?_
          refine S.cVI (d := 26) (av := [.int (0 : Int32), .int l1, .int (l3 + (1 : Int32))]) (rs := [.int (l3 + (1 : Int32)), .int l1, .int (0 : Int32)]) (b := 48) 47 rfl co_X11_342 rfl rfl rfl rfl rfl ⟨⟨Nat.le_of_ble_eq_true rfl, Nat.le_of_ble_eq_true rfl⟩, ⟨Nat.le_of_ble_eq_true rfl, Nat.le_of_ble_eq_true rfl⟩, Nat.le_of_ble_eq_true rfl⟩ (cm_X7_firstParting b (0 : Int32) l1 (l3 + (1 : Int32)) I10 J11) (fun r13 I14 J15 => ?_)
          refine S.istore_n [(3, .int r13), (2, .int (l2 + 1)), (0, .ref 0), (1, .int l1), (4, .int l4)] 48 rfl (by decide) rfl ?_
          refine S.iinc (l4 + 1) [(4, .int (l4 + 1)), (3, .int r13), (2, .int (l2 + 1)), (0, .ref 0), (1, .int l1)] 49 4 rfl rfl rfl (by decide) rfl ?_
          refine S.goto 46 50 rfl (by decide) ?_
          refine S.sub (lv' := [(0, .ref 0), (1, .int l1), (2, .int (l2 + 1)), (3, .int r13), (4, .int (l4 + 1))]) [3, 4, 2, 1, 0] rfl ?_
          exact ih _ _ _ _ _
        · refine S.if_ne 72 33 rfl (by decide) (fun _ => ?_) (fun _ => ?_)
          · exact hj12 _ _
          · refine S.aload_n 34 0 rfl rfl ?_
            refine S.getR 35 rfl fo_X11_35 rfl rfl rfl ?_
            refine S.iload_n 36 3 rfl rfl ?_
            refine S.i2l 37 rfl ?_
            refine S.cVV (d := 1) (av := [.long (Int32.toInt64 l3)]) (rs := [.long (Int32.toInt64 l3)]) (b := 15) 38 rfl co_X11_211 rfl rfl rfl rfl rfl ⟨⟨Nat.le_of_ble_eq_true rfl, Nat.le_of_ble_eq_true rfl⟩, ⟨Nat.le_of_ble_eq_true rfl, Nat.le_of_ble_eq_true rfl⟩, Nat.le_of_ble_eq_true rfl⟩ (cm_X10_add b (Int32.toInt64 l3) I J) (fun _ I16 J17 => ?_)
            exact hj12 _ _
def F_X11_tells (l1 : Int32) (I : HI) (J : HJ) : Option (Int32 × HI × HJ) :=
  cp (F_X7_has l1 I J) fun r1 =>
  if r1 = 0 then
    some ((-1 : Int32), I, J)
  else
    cl (F_X11_openTable I J) fun r2 I3 J4 =>
    if r2 = 0 then
      some ((-3 : Int32), I3, J4)
    else
      cl (F_X10_clear I3 J4) fun _ I5 J6 =>
      cl (F_X7_firstParting (0 : Int32) l1 (0 : Int32) I5 J6) fun r7 I8 J9 =>
      F_X11_tells_L46 l1 bgf (0 : Int32) r7 (0 : Int32) I8 J9
set_option maxRecDepth 100000 in
theorem cm_X11_tells (b : Bool) (l1 : Int32) (I : HI) (J : HJ) : CM mX11_tells 27 0 0 [.ref 0, .int l1] (zs b, I, J) (fI (zs b)) (F_X11_tells l1 I J) := by
  refine S.of okX11_tells pn_X11 (Nat.le_of_ble_eq_true rfl) ?_
  refine S.sub (lv' := [(0, .ref 0), (1, .int l1)]) [0, 1] rfl ?_
  unfold F_X11_tells
  refine S.aload_n 0 0 rfl rfl ?_
  refine S.getR 1 rfl fo_X11_78 rfl rfl rfl ?_
  refine S.iload_n 2 1 rfl rfl ?_
  refine S.qVI (d := 4) (av := [.int l1]) (rs := [.int l1]) (b := 48) 3 rfl co_X11_326 rfl rfl rfl rfl rfl ⟨⟨Nat.le_of_ble_eq_true rfl, Nat.le_of_ble_eq_true rfl⟩, ⟨Nat.le_of_ble_eq_true rfl, Nat.le_of_ble_eq_true rfl⟩, Nat.le_of_ble_eq_true rfl⟩ (cm_X7_has b l1 I J) (fun r1 => ?_)
  refine S.if_ne 13 4 rfl (by decide) (fun _ => ?_) (fun _ => ?_)
  · refine S.aload_n 7 0 rfl rfl ?_
    refine S.cVI (d := 25) (av := []) (rs := []) (b := 0) 8 rfl co_X11_241 rfl rfl rfl rfl rfl ⟨⟨Nat.le_of_ble_eq_true rfl, Nat.le_of_ble_eq_true rfl⟩, ⟨Nat.le_of_ble_eq_true rfl, Nat.le_of_ble_eq_true rfl⟩, Nat.le_of_ble_eq_true rfl⟩ (cm_X11_openTable b I J) (fun r2 I3 J4 => ?_)
    refine S.if_ne 23 9 rfl (by decide) (fun _ => ?_) (fun _ => ?_)
    · refine S.aload_n 12 0 rfl rfl ?_
      refine S.getR 13 rfl fo_X11_35 rfl rfl rfl ?_
      refine S.cVV (d := 1) (av := []) (rs := []) (b := 15) 14 rfl co_X11_205 rfl rfl rfl rfl rfl ⟨⟨Nat.le_of_ble_eq_true rfl, Nat.le_of_ble_eq_true rfl⟩, ⟨Nat.le_of_ble_eq_true rfl, Nat.le_of_ble_eq_true rfl⟩, Nat.le_of_ble_eq_true rfl⟩ (cm_X10_clear b I3 J4) (fun _ I5 J6 => ?_)
      refine S.iconst (0 : Int32) 15 rfl (by decide) ?_
      refine S.istore_n [(2, .int (0 : Int32)), (0, .ref 0), (1, .int l1)] 16 rfl (by decide) rfl ?_
      refine S.aload_n 17 1 rfl rfl ?_
      refine S.getR 18 rfl fo_X11_78 rfl rfl rfl ?_
      refine S.iconst (0 : Int32) 19 rfl (by decide) ?_
      refine S.iload_n 20 2 rfl rfl ?_
      refine S.iconst (0 : Int32) 21 rfl (by decide) ?_
      refine S.cVI (d := 26) (av := [.int (0 : Int32), .int l1, .int (0 : Int32)]) (rs := [.int (0 : Int32), .int l1, .int (0 : Int32)]) (b := 48) 22 rfl co_X11_342 rfl rfl rfl rfl rfl ⟨⟨Nat.le_of_ble_eq_true rfl, Nat.le_of_ble_eq_true rfl⟩, ⟨Nat.le_of_ble_eq_true rfl, Nat.le_of_ble_eq_true rfl⟩, Nat.le_of_ble_eq_true rfl⟩ (cm_X7_firstParting b (0 : Int32) l1 (0 : Int32) I5 J6) (fun r7 I8 J9 => ?_)
      refine S.istore_n [(3, .int r7), (2, .int (0 : Int32)), (0, .ref 0), (1, .int l1)] 23 rfl (by decide) rfl ?_
      refine S.iconst (0 : Int32) 24 rfl (by decide) ?_
      refine S.istore [(4, .int (0 : Int32)), (3, .int r7), (2, .int (0 : Int32)), (0, .ref 0), (1, .int l1)] 25 rfl (by decide) rfl ?_
      refine S.sub (lv' := [(0, .ref 0), (1, .int l1), (2, .int (0 : Int32)), (3, .int r7), (4, .int (0 : Int32))]) [3, 4, 2, 1, 0] rfl ?_
      refine s_X11_tells_L46 b _ bgf _ _ _ _ _
    · refine S.bipush (-3 : Int32) 10 rfl (by decide) ?_
      exact S.iret 11 rfl rfl rfl (Nat.le_refl _) (Nat.le_refl _) rfl
  · refine S.iconst (-1 : Int32) 5 rfl (by decide) ?_
    exact S.iret 6 rfl rfl rfl (Nat.le_refl _) (Nat.le_refl _) rfl
def F_X11_hidden_L21  : Nat → Int32 → Int32 → HI → HJ → Option (Int32 × HI × HJ)
  | 0, _, _, _, _ => none
  | K+1, l1, l2, I, J =>
    cp (F_X7_size I J) fun r6 =>
    if r6 ≤ l2 then
      some (l1, I, J)
    else
      cl (F_X7_firstParting (0 : Int32) l2 (0 : Int32) I J) fun r7 I8 J9 =>
      lb (fun (y10 : Int32) (I11 : HI) (J12 : HJ) =>
      F_X11_hidden_L21 K y10 (l2 + 1) I11 J12) fun j13 =>
      if r7 = (-1 : Int32) then
        lb (fun (I14 : HI) (J15 : HJ) =>
        j13 (l1 + 1) I14 J15) fun j16 =>
        if (8 : Int32) ≤ l1 then
          j16 I8 J9
        else
          cl (F_X10_add (Int32.toInt64 l2) I8 J9) fun _ I17 J18 =>
          j16 I17 J18
      else
        j13 l1 I8 J9
set_option maxRecDepth 100000 in
theorem s_X11_hidden_L21 (b : Bool)  : ∀ (K : Nat) (l1 : Int32) (l2 : Int32) (I : HI) (J : HJ), S (fI (zs b)) mX11_hidden (rmd 27 0 0) 0 0 (0, 0) 21 [(0, .ref 0), (1, .int l1), (2, .int l2)] [] (zs b, I, J) (F_X11_hidden_L21 K l1 l2 I J) := by
  intro K
  induction K with
  | zero => intro l1 l2 I J; exact S.none
  | succ K ih =>
    intro l1 l2 I J
    rw [F_X11_hidden_L21]
    refine S.iload_n 12 2 rfl rfl ?_
    refine S.aload_n 13 0 rfl rfl ?_
    refine S.getR 14 rfl fo_X11_78 rfl rfl rfl ?_
    refine S.qVI (d := 3) (av := []) (rs := []) (b := 48) 15 rfl co_X11_324 rfl rfl rfl rfl rfl ⟨⟨Nat.le_of_ble_eq_true rfl, Nat.le_of_ble_eq_true rfl⟩, ⟨Nat.le_of_ble_eq_true rfl, Nat.le_of_ble_eq_true rfl⟩, Nat.le_of_ble_eq_true rfl⟩ (cm_X7_size b I J) (fun r6 => ?_)
    refine S.icmp_ge 70 16 rfl (by decide) (fun _ => ?_) (fun _ => ?_)
    · refine S.iload_n 36 1 rfl rfl ?_
      exact S.iret 37 rfl rfl rfl (Nat.le_refl _) (Nat.le_refl _) rfl
    · refine S.aload_n 17 0 rfl rfl ?_
      refine S.getR 18 rfl fo_X11_78 rfl rfl rfl ?_
      refine S.iconst (0 : Int32) 19 rfl (by decide) ?_
      refine S.iload_n 20 2 rfl rfl ?_
      refine S.iconst (0 : Int32) 21 rfl (by decide) ?_
      refine S.cVI (d := 26) (av := [.int (0 : Int32), .int l2, .int (0 : Int32)]) (rs := [.int (0 : Int32), .int l2, .int (0 : Int32)]) (b := 48) 22 rfl co_X11_342 rfl rfl rfl rfl rfl ⟨⟨Nat.le_of_ble_eq_true rfl, Nat.le_of_ble_eq_true rfl⟩, ⟨Nat.le_of_ble_eq_true rfl, Nat.le_of_ble_eq_true rfl⟩, Nat.le_of_ble_eq_true rfl⟩ (cm_X7_firstParting b (0 : Int32) l2 (0 : Int32) I J) (fun r7 I8 J9 => ?_)
      refine S.iconst (-1 : Int32) 23 rfl (by decide) ?_
      refine S.jn (fun j => ∀ (y10 : Int32) (I11 : HI) (J12 : HJ), S (fI (zs b)) mX11_hidden (rmd 27 0 0) 0 0 (0, 0) 64 [(0, .ref 0), (1, .int y10), (2, .int l2)] [] (zs b, I11, J12) (j y10 I11 J12)) (fun y10 I11 J12 => ?_) (fun j13 hj13 => ?_)
      · refine S.iinc (l2 + 1) [(2, .int (l2 + 1)), (0, .ref 0), (1, .int y10)] 34 2 rfl rfl rfl (by decide) rfl ?_
        refine S.goto 21 35 rfl (by decide) ?_
        refine S.sub (lv' := [(0, .ref 0), (1, .int y10), (2, .int (l2 + 1))]) [1, 2, 0] rfl ?_
        exact ih _ _ _ _
      · refine S.icmp_ne 64 24 rfl (by decide) (fun _ => ?_) (fun _ => ?_)
        · exact hj13 _ _ _
        · refine S.iload_n 25 1 rfl rfl ?_
          refine S.bipush (8 : Int32) 26 rfl (by decide) ?_
          refine S.jn (fun j => ∀ (I14 : HI) (J15 : HJ), S (fI (zs b)) mX11_hidden (rmd 27 0 0) 0 0 (0, 0) 61 [(0, .ref 0), (1, .int l1), (2, .int l2)] [] (zs b, I14, J15) (j I14 J15)) (fun I14 J15 => ?_) (fun j16 hj16 => ?_)
          · refine S.iinc (l1 + 1) [(1, .int (l1 + 1)), (0, .ref 0), (2, .int l2)] 33 1 rfl rfl rfl (by decide) rfl ?_
            refine S.sub (lv' := [(0, .ref 0), (1, .int (l1 + 1)), (2, .int l2)]) [1, 0, 2] rfl ?_
            exact hj13 _ _ _
          · refine S.icmp_ge 61 27 rfl (by decide) (fun _ => ?_) (fun _ => ?_)
            · exact hj16 _ _
            · refine S.aload_n 28 0 rfl rfl ?_
              refine S.getR 29 rfl fo_X11_35 rfl rfl rfl ?_
              refine S.iload_n 30 2 rfl rfl ?_
              refine S.i2l 31 rfl ?_
              refine S.cVV (d := 1) (av := [.long (Int32.toInt64 l2)]) (rs := [.long (Int32.toInt64 l2)]) (b := 15) 32 rfl co_X11_211 rfl rfl rfl rfl rfl ⟨⟨Nat.le_of_ble_eq_true rfl, Nat.le_of_ble_eq_true rfl⟩, ⟨Nat.le_of_ble_eq_true rfl, Nat.le_of_ble_eq_true rfl⟩, Nat.le_of_ble_eq_true rfl⟩ (cm_X10_add b (Int32.toInt64 l2) I8 J9) (fun _ I17 J18 => ?_)
              exact hj16 _ _
def F_X11_hidden  (I : HI) (J : HJ) : Option (Int32 × HI × HJ) :=
  cl (F_X11_openTable I J) fun r1 I2 J3 =>
  if r1 = 0 then
    some ((-3 : Int32), I2, J3)
  else
    cl (F_X10_clear I2 J3) fun _ I4 J5 =>
    F_X11_hidden_L21 bgf (0 : Int32) (1 : Int32) I4 J5
set_option maxRecDepth 100000 in
theorem cm_X11_hidden (b : Bool)  (I : HI) (J : HJ) : CM mX11_hidden 27 0 0 [.ref 0] (zs b, I, J) (fI (zs b)) (F_X11_hidden  I J) := by
  refine S.of okX11_hidden pn_X11 (Nat.le_of_ble_eq_true rfl) ?_
  refine S.sub (lv' := [(0, .ref 0)]) [0] rfl ?_
  unfold F_X11_hidden
  refine S.aload_n 0 0 rfl rfl ?_
  refine S.cVI (d := 25) (av := []) (rs := []) (b := 0) 1 rfl co_X11_241 rfl rfl rfl rfl rfl ⟨⟨Nat.le_of_ble_eq_true rfl, Nat.le_of_ble_eq_true rfl⟩, ⟨Nat.le_of_ble_eq_true rfl, Nat.le_of_ble_eq_true rfl⟩, Nat.le_of_ble_eq_true rfl⟩ (cm_X11_openTable b I J) (fun r1 I2 J3 => ?_)
  refine S.if_ne 10 2 rfl (by decide) (fun _ => ?_) (fun _ => ?_)
  · refine S.aload_n 5 0 rfl rfl ?_
    refine S.getR 6 rfl fo_X11_35 rfl rfl rfl ?_
    refine S.cVV (d := 1) (av := []) (rs := []) (b := 15) 7 rfl co_X11_205 rfl rfl rfl rfl rfl ⟨⟨Nat.le_of_ble_eq_true rfl, Nat.le_of_ble_eq_true rfl⟩, ⟨Nat.le_of_ble_eq_true rfl, Nat.le_of_ble_eq_true rfl⟩, Nat.le_of_ble_eq_true rfl⟩ (cm_X10_clear b I2 J3) (fun _ I4 J5 => ?_)
    refine S.iconst (0 : Int32) 8 rfl (by decide) ?_
    refine S.istore_n [(1, .int (0 : Int32)), (0, .ref 0)] 9 rfl (by decide) rfl ?_
    refine S.iconst (1 : Int32) 10 rfl (by decide) ?_
    refine S.istore_n [(2, .int (1 : Int32)), (1, .int (0 : Int32)), (0, .ref 0)] 11 rfl (by decide) rfl ?_
    refine S.sub (lv' := [(0, .ref 0), (1, .int (0 : Int32)), (2, .int (1 : Int32))]) [2, 1, 0] rfl ?_
    refine s_X11_hidden_L21 b bgf _ _ _ _
  · refine S.bipush (-3 : Int32) 3 rfl (by decide) ?_
    exact S.iret 4 rfl rfl rfl (Nat.le_refl _) (Nat.le_refl _) rfl
def F_X11_alike (l1 : Int32) (l2 : Int32) (I : HI) (J : HJ) : Option (Int32 × HI × HJ) :=
  cp (F_X7_has l1 I J) fun r1 =>
  if r1 = 0 then
    some ((-1 : Int32), I, J)
  else
    cp (F_X7_has l2 I J) fun r2 =>
    if r2 = 0 then
      some ((-1 : Int32), I, J)
    else
      cl (F_X11_openTable I J) fun r3 I4 J5 =>
      if r3 = 0 then
        some ((-3 : Int32), I4, J5)
      else
        cl (F_X7_firstParting l1 l2 (0 : Int32) I4 J5) fun r6 I7 J8 =>
        if r6 = (-1 : Int32) then
          some ((1 : Int32), I7, J8)
        else
          cl (F_X10_clear I7 J8) fun _ I9 J10 =>
          cl (F_X10_add (Int32.toInt64 r6) I9 J10) fun _ I11 J12 =>
          some ((0 : Int32), I11, J12)
set_option maxRecDepth 100000 in
theorem cm_X11_alike (b : Bool) (l1 : Int32) (l2 : Int32) (I : HI) (J : HJ) : CM mX11_alike 27 0 0 [.ref 0, .int l1, .int l2] (zs b, I, J) (fI (zs b)) (F_X11_alike l1 l2 I J) := by
  refine S.of okX11_alike pn_X11 (Nat.le_of_ble_eq_true rfl) ?_
  refine S.sub (lv' := [(0, .ref 0), (1, .int l1), (2, .int l2)]) [0, 1, 2] rfl ?_
  unfold F_X11_alike
  refine S.aload_n 0 0 rfl rfl ?_
  refine S.getR 1 rfl fo_X11_78 rfl rfl rfl ?_
  refine S.iload_n 2 1 rfl rfl ?_
  refine S.qVI (d := 4) (av := [.int l1]) (rs := [.int l1]) (b := 48) 3 rfl co_X11_326 rfl rfl rfl rfl rfl ⟨⟨Nat.le_of_ble_eq_true rfl, Nat.le_of_ble_eq_true rfl⟩, ⟨Nat.le_of_ble_eq_true rfl, Nat.le_of_ble_eq_true rfl⟩, Nat.le_of_ble_eq_true rfl⟩ (cm_X7_has b l1 I J) (fun r1 => ?_)
  refine S.if_eq 22 4 rfl (by decide) (fun _ => ?_) (fun _ => ?_)
  · refine S.iconst (-1 : Int32) 10 rfl (by decide) ?_
    exact S.iret 11 rfl rfl rfl (Nat.le_refl _) (Nat.le_refl _) rfl
  · refine S.aload_n 5 0 rfl rfl ?_
    refine S.getR 6 rfl fo_X11_78 rfl rfl rfl ?_
    refine S.iload_n 7 2 rfl rfl ?_
    refine S.qVI (d := 4) (av := [.int l2]) (rs := [.int l2]) (b := 48) 8 rfl co_X11_326 rfl rfl rfl rfl rfl ⟨⟨Nat.le_of_ble_eq_true rfl, Nat.le_of_ble_eq_true rfl⟩, ⟨Nat.le_of_ble_eq_true rfl, Nat.le_of_ble_eq_true rfl⟩, Nat.le_of_ble_eq_true rfl⟩ (cm_X7_has b l2 I J) (fun r2 => ?_)
    refine S.if_ne 24 9 rfl (by decide) (fun _ => ?_) (fun _ => ?_)
    · refine S.aload_n 12 0 rfl rfl ?_
      refine S.cVI (d := 25) (av := []) (rs := []) (b := 0) 13 rfl co_X11_241 rfl rfl rfl rfl rfl ⟨⟨Nat.le_of_ble_eq_true rfl, Nat.le_of_ble_eq_true rfl⟩, ⟨Nat.le_of_ble_eq_true rfl, Nat.le_of_ble_eq_true rfl⟩, Nat.le_of_ble_eq_true rfl⟩ (cm_X11_openTable b I J) (fun r3 I4 J5 => ?_)
      refine S.if_ne 34 14 rfl (by decide) (fun _ => ?_) (fun _ => ?_)
      · refine S.aload_n 17 0 rfl rfl ?_
        refine S.getR 18 rfl fo_X11_78 rfl rfl rfl ?_
        refine S.iload_n 19 1 rfl rfl ?_
        refine S.iload_n 20 2 rfl rfl ?_
        refine S.iconst (0 : Int32) 21 rfl (by decide) ?_
        refine S.cVI (d := 26) (av := [.int l1, .int l2, .int (0 : Int32)]) (rs := [.int (0 : Int32), .int l2, .int l1]) (b := 48) 22 rfl co_X11_342 rfl rfl rfl rfl rfl ⟨⟨Nat.le_of_ble_eq_true rfl, Nat.le_of_ble_eq_true rfl⟩, ⟨Nat.le_of_ble_eq_true rfl, Nat.le_of_ble_eq_true rfl⟩, Nat.le_of_ble_eq_true rfl⟩ (cm_X7_firstParting b l1 l2 (0 : Int32) I4 J5) (fun r6 I7 J8 => ?_)
        refine S.istore_n [(3, .int r6), (0, .ref 0), (1, .int l1), (2, .int l2)] 23 rfl (by decide) rfl ?_
        refine S.iload_n 24 0 rfl rfl ?_
        refine S.iconst (-1 : Int32) 25 rfl (by decide) ?_
        refine S.icmp_ne 52 26 rfl (by decide) (fun _ => ?_) (fun _ => ?_)
        · refine S.aload_n 29 1 rfl rfl ?_
          refine S.getR 30 rfl fo_X11_35 rfl rfl rfl ?_
          refine S.cVV (d := 1) (av := []) (rs := []) (b := 15) 31 rfl co_X11_205 rfl rfl rfl rfl rfl ⟨⟨Nat.le_of_ble_eq_true rfl, Nat.le_of_ble_eq_true rfl⟩, ⟨Nat.le_of_ble_eq_true rfl, Nat.le_of_ble_eq_true rfl⟩, Nat.le_of_ble_eq_true rfl⟩ (cm_X10_clear b I7 J8) (fun _ I9 J10 => ?_)
          refine S.aload_n 32 1 rfl rfl ?_
          refine S.getR 33 rfl fo_X11_35 rfl rfl rfl ?_
          refine S.iload_n 34 0 rfl rfl ?_
          refine S.i2l 35 rfl ?_
          refine S.cVV (d := 1) (av := [.long (Int32.toInt64 r6)]) (rs := [.long (Int32.toInt64 r6)]) (b := 15) 36 rfl co_X11_211 rfl rfl rfl rfl rfl ⟨⟨Nat.le_of_ble_eq_true rfl, Nat.le_of_ble_eq_true rfl⟩, ⟨Nat.le_of_ble_eq_true rfl, Nat.le_of_ble_eq_true rfl⟩, Nat.le_of_ble_eq_true rfl⟩ (cm_X10_add b (Int32.toInt64 r6) I9 J10) (fun _ I11 J12 => ?_)
          refine S.iconst (0 : Int32) 37 rfl (by decide) ?_
          exact S.iret 38 rfl rfl rfl (Nat.le_refl _) (Nat.le_refl _) rfl
        · refine S.iconst (1 : Int32) 27 rfl (by decide) ?_
          exact S.iret 28 rfl rfl rfl (Nat.le_refl _) (Nat.le_refl _) rfl
      · refine S.bipush (-3 : Int32) 15 rfl (by decide) ?_
        exact S.iret 16 rfl rfl rfl (Nat.le_refl _) (Nat.le_refl _) rfl
    · refine S.iconst (-1 : Int32) 10 rfl (by decide) ?_
      exact S.iret 11 rfl rfl rfl (Nat.le_refl _) (Nat.le_refl _) rfl
def F_X11_seen (l1 : Int32) (l2 : Int32) (l3 : Int64) (I : HI) (J : HJ) : Option (Int32 × HI × HJ) :=
  cp (F_X0_hasSetting l1 l2 I J) fun r1 =>
  if r1 = 0 then
    some ((-1 : Int32), I, J)
  else
    cp (F_X0_hasLamps l3 I J) fun r2 =>
    if r2 = 0 then
      some ((-1 : Int32), I, J)
    else
      cl (F_X3_addSeen_25 l1 l2 l3 I J) fun r3 I4 J5 =>
      if r3 = 0 then
        some ((-1 : Int32), I4, J5)
      else
        some ((I4 x_notes f_Notes_seenSize), I4, J5)
set_option maxRecDepth 100000 in
theorem cm_X11_seen (b : Bool) (l1 : Int32) (l2 : Int32) (l3 : Int64) (I : HI) (J : HJ) : CM mX11_seen 2 0 0 [.ref 0, .int l1, .int l2, .long l3] (zs b, I, J) (fI (zs b)) (F_X11_seen l1 l2 l3 I J) := by
  refine S.of okX11_seen pn_X11 (Nat.le_of_ble_eq_true rfl) ?_
  refine S.sub (lv' := [(0, .ref 0), (1, .int l1), (2, .int l2), (3, .long l3)]) [0, 1, 2, 3] rfl ?_
  unfold F_X11_seen
  refine S.aload_n 0 0 rfl rfl ?_
  refine S.getR 1 rfl fo_X11_10 rfl rfl rfl ?_
  refine S.iload_n 2 1 rfl rfl ?_
  refine S.iload_n 3 2 rfl rfl ?_
  refine S.qVI (d := 1) (av := [.int l1, .int l2]) (rs := [.int l2, .int l1]) (b := 1) 4 rfl co_X11_177 rfl rfl rfl rfl rfl ⟨⟨Nat.le_of_ble_eq_true rfl, Nat.le_of_ble_eq_true rfl⟩, ⟨Nat.le_of_ble_eq_true rfl, Nat.le_of_ble_eq_true rfl⟩, Nat.le_of_ble_eq_true rfl⟩ (cm_X0_hasSetting b l1 l2 I J) (fun r1 => ?_)
  refine S.if_eq 23 5 rfl (by decide) (fun _ => ?_) (fun _ => ?_)
  · refine S.iconst (-1 : Int32) 11 rfl (by decide) ?_
    exact S.iret 12 rfl rfl rfl (Nat.le_refl _) (Nat.le_refl _) rfl
  · refine S.aload_n 6 0 rfl rfl ?_
    refine S.getR 7 rfl fo_X11_10 rfl rfl rfl ?_
    refine S.lload_n 8 3 rfl rfl ?_
    refine S.qVI (d := 1) (av := [.long l3]) (rs := [.long l3]) (b := 1) 9 rfl co_X11_237 rfl rfl rfl rfl rfl ⟨⟨Nat.le_of_ble_eq_true rfl, Nat.le_of_ble_eq_true rfl⟩, ⟨Nat.le_of_ble_eq_true rfl, Nat.le_of_ble_eq_true rfl⟩, Nat.le_of_ble_eq_true rfl⟩ (cm_X0_hasLamps b l3 I J) (fun r2 => ?_)
    refine S.if_ne 25 10 rfl (by decide) (fun _ => ?_) (fun _ => ?_)
    · refine S.aload_n 13 0 rfl rfl ?_
      refine S.getR 14 rfl fo_X11_51 rfl rfl rfl ?_
      refine S.iload_n 15 1 rfl rfl ?_
      refine S.iload_n 16 2 rfl rfl ?_
      refine S.lload_n 17 3 rfl rfl ?_
      refine S.cVI (d := 1) (av := [.int l1, .int l2, .long l3]) (rs := [.long l3, .int l2, .int l1]) (b := 25) 18 rfl co_X11_346 rfl rfl rfl rfl rfl ⟨⟨Nat.le_of_ble_eq_true rfl, Nat.le_of_ble_eq_true rfl⟩, ⟨Nat.le_of_ble_eq_true rfl, Nat.le_of_ble_eq_true rfl⟩, Nat.le_of_ble_eq_true rfl⟩ (cm_X3_addSeen_25 b l1 l2 l3 I J) (fun r3 I4 J5 => ?_)
      refine S.if_eq 48 19 rfl (by decide) (fun _ => ?_) (fun _ => ?_)
      · refine S.iconst (-1 : Int32) 24 rfl (by decide) ?_
        exact S.iret 25 rfl rfl rfl (Nat.le_refl _) (Nat.le_refl _) rfl
      · refine S.aload_n 20 0 rfl rfl ?_
        refine S.getR 21 rfl fo_X11_51 rfl rfl rfl ?_
        refine S.getI 22 rfl fo_X11_350 rfl rfl ?_
        refine S.goto 49 23 rfl (by decide) ?_
        exact S.iret 25 rfl rfl rfl (Nat.le_refl _) (Nat.le_refl _) rfl
    · refine S.iconst (-1 : Int32) 11 rfl (by decide) ?_
      exact S.iret 12 rfl rfl rfl (Nat.le_refl _) (Nat.le_refl _) rfl
def F_X11_forget  (I : HI) (J : HJ) : Option (Int32 × HI × HJ) :=
  if (I x_notes f_Notes_seenSize) = 0 then
    some ((-1 : Int32), I, J)
  else
    lb (ui I x_notes f_Notes_seenSize ((I x_notes f_Notes_seenSize) - (1 : Int32))) fun I2 =>
    some ((I2 x_notes f_Notes_seenSize), I2, J)
set_option maxRecDepth 100000 in
theorem cm_X11_forget (b : Bool)  (I : HI) (J : HJ) : CM mX11_forget 1 0 0 [.ref 0] (zs b, I, J) (fI (zs b)) (F_X11_forget  I J) := by
  refine S.of okX11_forget pn_X11 (Nat.le_of_ble_eq_true rfl) ?_
  refine S.sub (lv' := [(0, .ref 0)]) [0] rfl ?_
  unfold F_X11_forget
  refine S.aload_n 0 0 rfl rfl ?_
  refine S.getR 1 rfl fo_X11_51 rfl rfl rfl ?_
  refine S.getI 2 rfl fo_X11_350 rfl rfl ?_
  refine S.if_ne 12 3 rfl (by decide) (fun _ => ?_) (fun _ => ?_)
  · refine S.aload_n 6 0 rfl rfl ?_
    refine S.getR 7 rfl fo_X11_51 rfl rfl rfl ?_
    refine S.dup 8 rfl rfl ?_
    refine S.getI 9 rfl fo_X11_350 rfl rfl ?_
    refine S.iconst (1 : Int32) 10 rfl (by decide) ?_
    refine S.isub 11 rfl ?_
    refine S.putI 12 rfl fo_X11_350 rfl rfl rfl rfl (fun _ hq => by cases hq; exact Or.inl rfl) (fun I2 => ?_)
    refine S.aload_n 13 0 rfl rfl ?_
    refine S.getR 14 rfl fo_X11_51 rfl rfl rfl ?_
    refine S.getI 15 rfl fo_X11_350 rfl rfl ?_
    exact S.iret 16 rfl rfl rfl (Nat.le_refl _) (Nat.le_refl _) rfl
  · refine S.iconst (-1 : Int32) 4 rfl (by decide) ?_
    exact S.iret 5 rfl rfl rfl (Nat.le_refl _) (Nat.le_refl _) rfl
def F_X11_which_L16 (kx56 : HI → HJ → Option (Int32 × HI × HJ)) : Nat → Int32 → HI → HJ → Option (Int32 × HI × HJ)
  | 0, _, _, _ => none
  | K+1, l1, I, J =>
    if (I x_suspects f_Suspects_agreeing) ≤ l1 then
      kx56 I J
    else
      if (8 : Int32) ≤ l1 then
        kx56 I J
      else
        bx l1 116 <|
        cl (F_X10_add (Int32.toInt64 (I x_suspects_agrees (Int32.toNatClampNeg l1))) I J) fun _ I5 J6 =>
        F_X11_which_L16 kx56 K (l1 + 1) I5 J6
set_option maxRecDepth 100000 in
theorem s_X11_which_L16 (b : Bool) (kx56 : HI → HJ → Option (Int32 × HI × HJ)) (hkx56 : ∀ (I1 : HI) (J1 : HJ), S (fI (zs b)) mX11_which (rmd 27 0 0) 0 0 (0, 0) 56 [(0, .ref 0)] [] (zs b, I1, J1) (kx56 I1 J1)) : ∀ (K : Nat) (l1 : Int32) (I : HI) (J : HJ), S (fI (zs b)) mX11_which (rmd 27 0 0) 0 0 (0, 0) 16 [(0, .ref 0), (1, .int l1)] [] (zs b, I, J) (F_X11_which_L16 kx56 K l1 I J) := by
  intro K
  induction K with
  | zero => intro l1 I J; exact S.none
  | succ K ih =>
    intro l1 I J
    rw [F_X11_which_L16]
    refine S.iload_n 8 1 rfl rfl ?_
    refine S.aload_n 9 0 rfl rfl ?_
    refine S.getR 10 rfl fo_X11_78 rfl rfl rfl ?_
    refine S.getI 11 rfl fo_X11_356 rfl rfl ?_
    refine S.icmp_ge 56 12 rfl (by decide) (fun _ => ?_) (fun _ => ?_)
    · refine S.sub (lv' := [(0, .ref 0)]) [0] rfl ?_
      exact hkx56 _ _
    · refine S.iload_n 13 1 rfl rfl ?_
      refine S.bipush (8 : Int32) 14 rfl (by decide) ?_
      refine S.icmp_ge 56 15 rfl (by decide) (fun _ => ?_) (fun _ => ?_)
      · refine S.sub (lv' := [(0, .ref 0)]) [0] rfl ?_
        exact hkx56 _ _
      · refine S.aload_n 16 0 rfl rfl ?_
        refine S.getR 17 rfl fo_X11_35 rfl rfl rfl ?_
        refine S.aload_n 18 0 rfl rfl ?_
        refine S.getR 19 rfl fo_X11_78 rfl rfl rfl ?_
        refine S.getR 20 rfl fo_X11_359 rfl rfl rfl ?_
        refine S.iload_n 21 1 rfl rfl ?_
        refine S.iald 22 rfl rfl ?_
        refine S.i2l 23 rfl ?_
        refine S.cVV (d := 1) (av := [.long (Int32.toInt64 (I x_suspects_agrees (Int32.toNatClampNeg l1)))]) (rs := [.long (Int32.toInt64 (I x_suspects_agrees (Int32.toNatClampNeg l1)))]) (b := 15) 24 rfl co_X11_211 rfl rfl rfl rfl rfl ⟨⟨Nat.le_of_ble_eq_true rfl, Nat.le_of_ble_eq_true rfl⟩, ⟨Nat.le_of_ble_eq_true rfl, Nat.le_of_ble_eq_true rfl⟩, Nat.le_of_ble_eq_true rfl⟩ (cm_X10_add b (Int32.toInt64 (I x_suspects_agrees (Int32.toNatClampNeg l1))) I J) (fun _ I5 J6 => ?_)
        refine S.iinc (l1 + 1) [(1, .int (l1 + 1)), (0, .ref 0)] 25 1 rfl rfl rfl (by decide) rfl ?_
        refine S.goto 16 26 rfl (by decide) ?_
        refine S.sub (lv' := [(0, .ref 0), (1, .int (l1 + 1))]) [1, 0] rfl ?_
        exact ih _ _ _
def F_X11_which  (I : HI) (J : HJ) : Option (Int32 × HI × HJ) :=
  cl (F_X7_gather I J) fun _ I1 J2 =>
  cl (F_X10_clear I1 J2) fun _ I3 J4 =>
  F_X11_which_L16 (fun (I7 : HI) (J8 : HJ) =>
  some ((I7 x_suspects f_Suspects_agreeing), I7, J8)) bgf (0 : Int32) I3 J4
set_option maxRecDepth 100000 in
theorem cm_X11_which (b : Bool)  (I : HI) (J : HJ) : CM mX11_which 27 0 0 [.ref 0] (zs b, I, J) (fI (zs b)) (F_X11_which  I J) := by
  refine S.of okX11_which pn_X11 (Nat.le_of_ble_eq_true rfl) ?_
  refine S.sub (lv' := [(0, .ref 0)]) [0] rfl ?_
  unfold F_X11_which
  refine S.aload_n 0 0 rfl rfl ?_
  refine S.getR 1 rfl fo_X11_78 rfl rfl rfl ?_
  refine S.cVV (d := 26) (av := []) (rs := []) (b := 48) 2 rfl co_X11_353 rfl rfl rfl rfl rfl ⟨⟨Nat.le_of_ble_eq_true rfl, Nat.le_of_ble_eq_true rfl⟩, ⟨Nat.le_of_ble_eq_true rfl, Nat.le_of_ble_eq_true rfl⟩, Nat.le_of_ble_eq_true rfl⟩ (cm_X7_gather b I J) (fun _ I1 J2 => ?_)
  refine S.aload_n 3 0 rfl rfl ?_
  refine S.getR 4 rfl fo_X11_35 rfl rfl rfl ?_
  refine S.cVV (d := 1) (av := []) (rs := []) (b := 15) 5 rfl co_X11_205 rfl rfl rfl rfl rfl ⟨⟨Nat.le_of_ble_eq_true rfl, Nat.le_of_ble_eq_true rfl⟩, ⟨Nat.le_of_ble_eq_true rfl, Nat.le_of_ble_eq_true rfl⟩, Nat.le_of_ble_eq_true rfl⟩ (cm_X10_clear b I1 J2) (fun _ I3 J4 => ?_)
  refine S.iconst (0 : Int32) 6 rfl (by decide) ?_
  refine S.istore_n [(1, .int (0 : Int32)), (0, .ref 0)] 7 rfl (by decide) rfl ?_
  refine S.sub (lv' := [(0, .ref 0), (1, .int (0 : Int32))]) [1, 0] rfl ?_
  refine s_X11_which_L16 b _ (fun I7 J8 => ?_) bgf _ _ _
  refine S.aload_n 27 0 rfl rfl ?_
  refine S.getR 28 rfl fo_X11_78 rfl rfl rfl ?_
  refine S.getI 29 rfl fo_X11_356 rfl rfl ?_
  exact S.iret 30 rfl rfl rfl (Nat.le_refl _) (Nat.le_refl _) rfl
def F_X11_judge (l1 : Int32) (I : HI) (J : HJ) : Option (Int32 × HI × HJ) :=
  cp (F_X7_has l1 I J) fun r1 =>
  if r1 = 0 then
    some ((-1 : Int32), I, J)
  else
    cl (F_X7_firstAgainst l1 I J) fun r2 I3 J4 =>
    some (r2, I3, J4)
set_option maxRecDepth 100000 in
theorem cm_X11_judge (b : Bool) (l1 : Int32) (I : HI) (J : HJ) : CM mX11_judge 26 0 0 [.ref 0, .int l1] (zs b, I, J) (fI (zs b)) (F_X11_judge l1 I J) := by
  refine S.of okX11_judge pn_X11 (Nat.le_of_ble_eq_true rfl) ?_
  refine S.sub (lv' := [(0, .ref 0), (1, .int l1)]) [0, 1] rfl ?_
  unfold F_X11_judge
  refine S.aload_n 0 0 rfl rfl ?_
  refine S.getR 1 rfl fo_X11_78 rfl rfl rfl ?_
  refine S.iload_n 2 1 rfl rfl ?_
  refine S.qVI (d := 4) (av := [.int l1]) (rs := [.int l1]) (b := 48) 3 rfl co_X11_326 rfl rfl rfl rfl rfl ⟨⟨Nat.le_of_ble_eq_true rfl, Nat.le_of_ble_eq_true rfl⟩, ⟨Nat.le_of_ble_eq_true rfl, Nat.le_of_ble_eq_true rfl⟩, Nat.le_of_ble_eq_true rfl⟩ (cm_X7_has b l1 I J) (fun r1 => ?_)
  refine S.if_eq 22 4 rfl (by decide) (fun _ => ?_) (fun _ => ?_)
  · refine S.iconst (-1 : Int32) 10 rfl (by decide) ?_
    exact S.iret 11 rfl rfl rfl (Nat.le_refl _) (Nat.le_refl _) rfl
  · refine S.aload_n 5 0 rfl rfl ?_
    refine S.getR 6 rfl fo_X11_78 rfl rfl rfl ?_
    refine S.iload_n 7 1 rfl rfl ?_
    refine S.cVI (d := 25) (av := [.int l1]) (rs := [.int l1]) (b := 48) 8 rfl co_X11_362 rfl rfl rfl rfl rfl ⟨⟨Nat.le_of_ble_eq_true rfl, Nat.le_of_ble_eq_true rfl⟩, ⟨Nat.le_of_ble_eq_true rfl, Nat.le_of_ble_eq_true rfl⟩, Nat.le_of_ble_eq_true rfl⟩ (cm_X7_firstAgainst b l1 I J) (fun r2 I3 J4 => ?_)
    refine S.goto 23 9 rfl (by decide) ?_
    exact S.iret 11 rfl rfl rfl (Nat.le_refl _) (Nat.le_refl _) rfl
def F_X11_next_L44 (kx88 : Int32 → Int32 → HI → HJ → Option (Int32 × HI × HJ)) : Nat → Int32 → Int32 → Int32 → HI → HJ → Option (Int32 × HI × HJ)
  | 0, _, _, _, _, _ => none
  | K+1, l1, l2, l3, I, J =>
    if (I x_table f_Table_size) ≤ l3 then
      kx88 l1 l2 I J
    else
      if l1 ≤ (1 : Int32) then
        kx88 l1 l2 I J
      else
        cl (F_X7_leftAtWorst l3 l1 I J) fun r8 I9 J10 =>
        lb (fun (y11 : Int32) (y12 : Int32) =>
        F_X11_next_L44 kx88 K y11 y12 (l3 + 1) I9 J10) fun j13 =>
        if l1 ≤ r8 then
          j13 l1 l2
        else
          j13 r8 l3
set_option maxRecDepth 100000 in
theorem s_X11_next_L44 (b : Bool) (kx88 : Int32 → Int32 → HI → HJ → Option (Int32 × HI × HJ)) (hkx88 : ∀ (y1 : Int32) (y2 : Int32) (I1 : HI) (J1 : HJ), S (fI (zs b)) mX11_next (rmd 27 0 0) 0 0 (0, 0) 88 [(0, .ref 0), (1, .int y1), (2, .int y2)] [] (zs b, I1, J1) (kx88 y1 y2 I1 J1)) : ∀ (K : Nat) (l1 : Int32) (l2 : Int32) (l3 : Int32) (I : HI) (J : HJ), S (fI (zs b)) mX11_next (rmd 27 0 0) 0 0 (0, 0) 44 [(0, .ref 0), (1, .int l1), (2, .int l2), (3, .int l3)] [] (zs b, I, J) (F_X11_next_L44 kx88 K l1 l2 l3 I J) := by
  intro K
  induction K with
  | zero => intro l1 l2 l3 I J; exact S.none
  | succ K ih =>
    intro l1 l2 l3 I J
    rw [F_X11_next_L44]
    refine S.iload_n 24 3 rfl rfl ?_
    refine S.aload_n 25 0 rfl rfl ?_
    refine S.getR 26 rfl fo_X11_60 rfl rfl rfl ?_
    refine S.getI 27 rfl fo_X11_245 rfl rfl ?_
    refine S.icmp_ge 88 28 rfl (by decide) (fun _ => ?_) (fun _ => ?_)
    · refine S.sub (lv' := [(0, .ref 0), (1, .int l1), (2, .int l2)]) [0, 1, 2] rfl ?_
      exact hkx88 _ _ _ _
    · refine S.iload_n 29 1 rfl rfl ?_
      refine S.iconst (1 : Int32) 30 rfl (by decide) ?_
      refine S.icmp_le 88 31 rfl (by decide) (fun _ => ?_) (fun _ => ?_)
      · refine S.sub (lv' := [(0, .ref 0), (1, .int l1), (2, .int l2)]) [0, 1, 2] rfl ?_
        exact hkx88 _ _ _ _
      · refine S.aload_n 32 0 rfl rfl ?_
        refine S.getR 33 rfl fo_X11_78 rfl rfl rfl ?_
        refine S.iload_n 34 3 rfl rfl ?_
        refine S.iload_n 35 1 rfl rfl ?_
        refine S.cVI (d := 26) (av := [.int l3, .int l1]) (rs := [.int l1, .int l3]) (b := 48) 36 rfl co_X11_365 rfl rfl rfl rfl rfl ⟨⟨Nat.le_of_ble_eq_true rfl, Nat.le_of_ble_eq_true rfl⟩, ⟨Nat.le_of_ble_eq_true rfl, Nat.le_of_ble_eq_true rfl⟩, Nat.le_of_ble_eq_true rfl⟩ (cm_X7_leftAtWorst b l3 l1 I J) (fun r8 I9 J10 => ?_)
        refine S.istore [(4, .int r8), (0, .ref 0), (1, .int l1), (2, .int l2), (3, .int l3)] 37 rfl (by decide) rfl ?_
        refine S.iload 38 0 rfl rfl ?_
        refine S.iload_n 39 2 rfl rfl ?_
        refine S.jn (fun j => ∀ (y11 : Int32) (y12 : Int32), S (fI (zs b)) mX11_next (rmd 27 0 0) 0 0 (0, 0) 82 [(0, .ref 0), (1, .int y11), (2, .int y12), (3, .int l3)] [] (zs b, I9, J10) (j y11 y12)) (fun y11 y12 => ?_) (fun j13 hj13 => ?_)
        · refine S.iinc (l3 + 1) [(3, .int (l3 + 1)), (0, .ref 0), (1, .int y11), (2, .int y12)] 45 3 rfl rfl rfl (by decide) rfl ?_
          refine S.goto 44 46 rfl (by decide) ?_
          refine S.sub (lv' := [(0, .ref 0), (1, .int y11), (2, .int y12), (3, .int (l3 + 1))]) [1, 2, 3, 0] rfl ?_
          exact ih _ _ _ _ _
        · refine S.icmp_ge 82 40 rfl (by decide) (fun _ => ?_) (fun _ => ?_)
          · refine S.sub (lv' := [(0, .ref 0), (1, .int l1), (2, .int l2), (3, .int l3)]) [1, 2, 3, 4] rfl ?_
            exact hj13 _ _
          · refine S.iload 41 0 rfl rfl ?_
            refine S.istore_n [(1, .int r8), (4, .int r8), (0, .ref 0), (2, .int l2), (3, .int l3)] 42 rfl (by decide) rfl ?_
            refine S.iload_n 43 4 rfl rfl ?_
            refine S.istore_n [(2, .int l3), (1, .int r8), (4, .int r8), (0, .ref 0), (3, .int l3)] 44 rfl (by decide) rfl ?_
            refine S.sub (lv' := [(0, .ref 0), (1, .int r8), (2, .int l3), (3, .int l3)]) [3, 1, 0, 4] rfl ?_
            exact hj13 _ _
def F_X11_next  (I : HI) (J : HJ) : Option (Int32 × HI × HJ) :=
  cl (F_X11_openTable I J) fun r2 I3 J4 =>
  if r2 = 0 then
    some ((-3 : Int32), I3, J4)
  else
    cl (F_X7_gather I3 J4) fun _ I5 J6 =>
    if (I5 x_suspects f_Suspects_agreeing) = 0 then
      some ((-2 : Int32), I5, J6)
    else
      lb (((I5 x_suspects f_Suspects_agreeing) + (1 : Int32))) fun x7 =>
      F_X11_next_L44 (fun (y14 : Int32) (y15 : Int32) (I16 : HI) (J17 : HJ) =>
      cl (F_X10_clear I16 J17) fun _ I18 J19 =>
      cl (F_X10_add (Int32.toInt64 y15) I18 J19) fun _ I20 J21 =>
      some (y14, I20, J21)) bgf x7 (-1 : Int32) (0 : Int32) I5 J6
set_option maxRecDepth 100000 in
theorem cm_X11_next (b : Bool)  (I : HI) (J : HJ) : CM mX11_next 27 0 0 [.ref 0] (zs b, I, J) (fI (zs b)) (F_X11_next  I J) := by
  refine S.of okX11_next pn_X11 (Nat.le_of_ble_eq_true rfl) ?_
  refine S.sub (lv' := [(0, .ref 0)]) [0] rfl ?_
  unfold F_X11_next
  refine S.aload_n 0 0 rfl rfl ?_
  refine S.cVI (d := 25) (av := []) (rs := []) (b := 0) 1 rfl co_X11_241 rfl rfl rfl rfl rfl ⟨⟨Nat.le_of_ble_eq_true rfl, Nat.le_of_ble_eq_true rfl⟩, ⟨Nat.le_of_ble_eq_true rfl, Nat.le_of_ble_eq_true rfl⟩, Nat.le_of_ble_eq_true rfl⟩ (cm_X11_openTable b I J) (fun r2 I3 J4 => ?_)
  refine S.if_ne 10 2 rfl (by decide) (fun _ => ?_) (fun _ => ?_)
  · refine S.aload_n 5 0 rfl rfl ?_
    refine S.getR 6 rfl fo_X11_78 rfl rfl rfl ?_
    refine S.cVV (d := 26) (av := []) (rs := []) (b := 48) 7 rfl co_X11_353 rfl rfl rfl rfl rfl ⟨⟨Nat.le_of_ble_eq_true rfl, Nat.le_of_ble_eq_true rfl⟩, ⟨Nat.le_of_ble_eq_true rfl, Nat.le_of_ble_eq_true rfl⟩, Nat.le_of_ble_eq_true rfl⟩ (cm_X7_gather b I3 J4) (fun _ I5 J6 => ?_)
    refine S.aload_n 8 0 rfl rfl ?_
    refine S.getR 9 rfl fo_X11_78 rfl rfl rfl ?_
    refine S.getI 10 rfl fo_X11_356 rfl rfl ?_
    refine S.if_ne 30 11 rfl (by decide) (fun _ => ?_) (fun _ => ?_)
    · refine S.aload_n 14 0 rfl rfl ?_
      refine S.getR 15 rfl fo_X11_78 rfl rfl rfl ?_
      refine S.getI 16 rfl fo_X11_356 rfl rfl ?_
      refine S.iconst (1 : Int32) 17 rfl (by decide) ?_
      refine S.iadd 18 rfl ?_
      refine S.nmi (fun x7 => ?_)
      refine S.istore_n [(1, .int x7), (0, .ref 0)] 19 rfl (by decide) rfl ?_
      refine S.iconst (-1 : Int32) 20 rfl (by decide) ?_
      refine S.istore_n [(2, .int (-1 : Int32)), (1, .int x7), (0, .ref 0)] 21 rfl (by decide) rfl ?_
      refine S.iconst (0 : Int32) 22 rfl (by decide) ?_
      refine S.istore_n [(3, .int (0 : Int32)), (2, .int (-1 : Int32)), (1, .int x7), (0, .ref 0)] 23 rfl (by decide) rfl ?_
      refine S.sub (lv' := [(0, .ref 0), (1, .int x7), (2, .int (-1 : Int32)), (3, .int (0 : Int32))]) [3, 2, 1, 0] rfl ?_
      refine s_X11_next_L44 b _ (fun y14 y15 I16 J17 => ?_) bgf _ _ _ _ _
      refine S.aload_n 47 0 rfl rfl ?_
      refine S.getR 48 rfl fo_X11_35 rfl rfl rfl ?_
      refine S.cVV (d := 1) (av := []) (rs := []) (b := 15) 49 rfl co_X11_205 rfl rfl rfl rfl rfl ⟨⟨Nat.le_of_ble_eq_true rfl, Nat.le_of_ble_eq_true rfl⟩, ⟨Nat.le_of_ble_eq_true rfl, Nat.le_of_ble_eq_true rfl⟩, Nat.le_of_ble_eq_true rfl⟩ (cm_X10_clear b I16 J17) (fun _ I18 J19 => ?_)
      refine S.aload_n 50 0 rfl rfl ?_
      refine S.getR 51 rfl fo_X11_35 rfl rfl rfl ?_
      refine S.iload_n 52 2 rfl rfl ?_
      refine S.i2l 53 rfl ?_
      refine S.cVV (d := 1) (av := [.long (Int32.toInt64 y15)]) (rs := [.long (Int32.toInt64 y15)]) (b := 15) 54 rfl co_X11_211 rfl rfl rfl rfl rfl ⟨⟨Nat.le_of_ble_eq_true rfl, Nat.le_of_ble_eq_true rfl⟩, ⟨Nat.le_of_ble_eq_true rfl, Nat.le_of_ble_eq_true rfl⟩, Nat.le_of_ble_eq_true rfl⟩ (cm_X10_add b (Int32.toInt64 y15) I18 J19) (fun _ I20 J21 => ?_)
      refine S.iload_n 55 1 rfl rfl ?_
      exact S.iret 56 rfl rfl rfl (Nat.le_refl _) (Nat.le_refl _) rfl
    · refine S.bipush (-2 : Int32) 12 rfl (by decide) ?_
      exact S.iret 13 rfl rfl rfl (Nat.le_refl _) (Nat.le_refl _) rfl
  · refine S.bipush (-3 : Int32) 3 rfl (by decide) ?_
    exact S.iret 4 rfl rfl rfl (Nat.le_refl _) (Nat.le_refl _) rfl
def F_X11_test (l1 : Int32) (l2 : Int32) (I : HI) (J : HJ) : Option (Int32 × HI × HJ) :=
  cp (F_X0_hasSetting l1 l2 I J) fun r1 =>
  if r1 = 0 then
    some ((-1 : Int32), I, J)
  else
    cl (F_X5_addTest l1 l2 I J) fun r2 I3 J4 =>
    if r2 = 0 then
      some ((-1 : Int32), I3, J4)
    else
      some (((I3 x_plan f_Plan_tests) - (1 : Int32)), I3, J4)
set_option maxRecDepth 100000 in
theorem cm_X11_test (b : Bool) (l1 : Int32) (l2 : Int32) (I : HI) (J : HJ) : CM mX11_test 2 0 0 [.ref 0, .int l1, .int l2] (zs b, I, J) (fI (zs b)) (F_X11_test l1 l2 I J) := by
  refine S.of okX11_test pn_X11 (Nat.le_of_ble_eq_true rfl) ?_
  refine S.sub (lv' := [(0, .ref 0), (1, .int l1), (2, .int l2)]) [0, 1, 2] rfl ?_
  unfold F_X11_test
  refine S.aload_n 0 0 rfl rfl ?_
  refine S.getR 1 rfl fo_X11_10 rfl rfl rfl ?_
  refine S.iload_n 2 1 rfl rfl ?_
  refine S.iload_n 3 2 rfl rfl ?_
  refine S.qVI (d := 1) (av := [.int l1, .int l2]) (rs := [.int l2, .int l1]) (b := 1) 4 rfl co_X11_177 rfl rfl rfl rfl rfl ⟨⟨Nat.le_of_ble_eq_true rfl, Nat.le_of_ble_eq_true rfl⟩, ⟨Nat.le_of_ble_eq_true rfl, Nat.le_of_ble_eq_true rfl⟩, Nat.le_of_ble_eq_true rfl⟩ (cm_X0_hasSetting b l1 l2 I J) (fun r1 => ?_)
  refine S.if_ne 14 5 rfl (by decide) (fun _ => ?_) (fun _ => ?_)
  · refine S.aload_n 8 0 rfl rfl ?_
    refine S.getR 9 rfl fo_X11_87 rfl rfl rfl ?_
    refine S.iload_n 10 1 rfl rfl ?_
    refine S.iload_n 11 2 rfl rfl ?_
    refine S.cVI (d := 1) (av := [.int l1, .int l2]) (rs := [.int l2, .int l1]) (b := 52) 12 rfl co_X11_368 rfl rfl rfl rfl rfl ⟨⟨Nat.le_of_ble_eq_true rfl, Nat.le_of_ble_eq_true rfl⟩, ⟨Nat.le_of_ble_eq_true rfl, Nat.le_of_ble_eq_true rfl⟩, Nat.le_of_ble_eq_true rfl⟩ (cm_X5_addTest b l1 l2 I J) (fun r2 I3 J4 => ?_)
    refine S.if_eq 38 13 rfl (by decide) (fun _ => ?_) (fun _ => ?_)
    · refine S.iconst (-1 : Int32) 20 rfl (by decide) ?_
      exact S.iret 21 rfl rfl rfl (Nat.le_refl _) (Nat.le_refl _) rfl
    · refine S.aload_n 14 0 rfl rfl ?_
      refine S.getR 15 rfl fo_X11_87 rfl rfl rfl ?_
      refine S.getI 16 rfl fo_X11_371 rfl rfl ?_
      refine S.iconst (1 : Int32) 17 rfl (by decide) ?_
      refine S.isub 18 rfl ?_
      refine S.goto 39 19 rfl (by decide) ?_
      exact S.iret 21 rfl rfl rfl (Nat.le_refl _) (Nat.le_refl _) rfl
  · refine S.iconst (-1 : Int32) 6 rfl (by decide) ?_
    exact S.iret 7 rfl rfl rfl (Nat.le_refl _) (Nat.le_refl _) rfl
def F_X11_tree_C27 (I : HI) (J : HJ) : Option (Int32 × HI × HJ) :=
  cl (F_X10_clear I J) fun _ I5 J6 =>
  cp (F_X5_firstTest (0 : Int32) (0 : Int32) I5 J6) fun r7 =>
  cl (F_X10_add (Int32.toInt64 r7) I5 J6) fun _ I8 J9 =>
  cl (F_X10_add (Int32.toInt64 (I8 x_plan f_Plan_groups)) I8 J9) fun _ I10 J11 =>
  cp (F_X5_depthAt (0 : Int32) (0 : Int32) I10 J11) fun r12 =>
  some (r12, I10, J11)
set_option maxRecDepth 100000 in
theorem s_X11_tree_C27 (I : HI) (J : HJ) : S (fI (zs true)) mX11_tree (rmd 27 0 0) 0 0 (0, 0) 27 [(0, .ref 0)] [] (zs true, I, J) (F_X11_tree_C27 I J) := by
  unfold F_X11_tree_C27
  refine S.aload_n 12 0 rfl rfl ?_
  refine S.getR 13 rfl fo_X11_35 rfl rfl rfl ?_
  refine S.cVV (d := 1) (av := []) (rs := []) (b := 15) 14 rfl co_X11_205 rfl rfl rfl rfl rfl ⟨⟨Nat.le_of_ble_eq_true rfl, Nat.le_of_ble_eq_true rfl⟩, ⟨Nat.le_of_ble_eq_true rfl, Nat.le_of_ble_eq_true rfl⟩, Nat.le_of_ble_eq_true rfl⟩ (cm_X10_clear true I J) (fun _ I5 J6 => ?_)
  refine S.aload_n 15 0 rfl rfl ?_
  refine S.getR 16 rfl fo_X11_35 rfl rfl rfl ?_
  refine S.aload_n 17 0 rfl rfl ?_
  refine S.getR 18 rfl fo_X11_87 rfl rfl rfl ?_
  refine S.iconst (0 : Int32) 19 rfl (by decide) ?_
  refine S.iconst (0 : Int32) 20 rfl (by decide) ?_
  refine S.qVI (d := 4) (av := [.int (0 : Int32), .int (0 : Int32)]) (rs := [.int (0 : Int32), .int (0 : Int32)]) (b := 52) 21 rfl co_X11_377 rfl rfl rfl rfl rfl ⟨⟨Nat.le_of_ble_eq_true rfl, Nat.le_of_ble_eq_true rfl⟩, ⟨Nat.le_of_ble_eq_true rfl, Nat.le_of_ble_eq_true rfl⟩, Nat.le_of_ble_eq_true rfl⟩ (cm_X5_firstTest (0 : Int32) (0 : Int32) I5 J6) (fun r7 => ?_)
  refine S.i2l 22 rfl ?_
  refine S.cVV (d := 1) (av := [.long (Int32.toInt64 r7)]) (rs := [.long (Int32.toInt64 r7)]) (b := 15) 23 rfl co_X11_211 rfl rfl rfl rfl rfl ⟨⟨Nat.le_of_ble_eq_true rfl, Nat.le_of_ble_eq_true rfl⟩, ⟨Nat.le_of_ble_eq_true rfl, Nat.le_of_ble_eq_true rfl⟩, Nat.le_of_ble_eq_true rfl⟩ (cm_X10_add true (Int32.toInt64 r7) I5 J6) (fun _ I8 J9 => ?_)
  refine S.aload_n 24 0 rfl rfl ?_
  refine S.getR 25 rfl fo_X11_35 rfl rfl rfl ?_
  refine S.aload_n 26 0 rfl rfl ?_
  refine S.getR 27 rfl fo_X11_87 rfl rfl rfl ?_
  refine S.getI 28 rfl fo_X11_380 rfl rfl ?_
  refine S.i2l 29 rfl ?_
  refine S.cVV (d := 1) (av := [.long (Int32.toInt64 (I8 x_plan f_Plan_groups))]) (rs := [.long (Int32.toInt64 (I8 x_plan f_Plan_groups))]) (b := 15) 30 rfl co_X11_211 rfl rfl rfl rfl rfl ⟨⟨Nat.le_of_ble_eq_true rfl, Nat.le_of_ble_eq_true rfl⟩, ⟨Nat.le_of_ble_eq_true rfl, Nat.le_of_ble_eq_true rfl⟩, Nat.le_of_ble_eq_true rfl⟩ (cm_X10_add true (Int32.toInt64 (I8 x_plan f_Plan_groups)) I8 J9) (fun _ I10 J11 => ?_)
  refine S.aload_n 31 0 rfl rfl ?_
  refine S.getR 32 rfl fo_X11_87 rfl rfl rfl ?_
  refine S.iconst (0 : Int32) 33 rfl (by decide) ?_
  refine S.iconst (0 : Int32) 34 rfl (by decide) ?_
  refine S.qVI (d := 2) (av := [.int (0 : Int32), .int (0 : Int32)]) (rs := [.int (0 : Int32), .int (0 : Int32)]) (b := 52) 35 rfl co_X11_383 rfl rfl rfl rfl rfl ⟨⟨Nat.le_of_ble_eq_true rfl, Nat.le_of_ble_eq_true rfl⟩, ⟨Nat.le_of_ble_eq_true rfl, Nat.le_of_ble_eq_true rfl⟩, Nat.le_of_ble_eq_true rfl⟩ (cm_X5_depthAt (0 : Int32) (0 : Int32) I10 J11) (fun r12 => ?_)
  exact S.iret 36 rfl rfl rfl (Nat.le_refl _) (Nat.le_refl _) rfl
def F_X11_tree  (I : HI) (J : HJ) : Option (Int32 × HI × HJ) :=
  cl (F_X7_gather I J) fun _ I1 J2 =>
  if (I1 x_suspects f_Suspects_agreeing) = 0 then
    some ((-2 : Int32), I1, J2)
  else
    cl (F_X5_grow I1 J2) fun _ I3 J4 =>
    F_X11_tree_C27 I3 J4
set_option maxRecDepth 100000 in
theorem cm_X11_tree  (I : HI) (J : HJ) : CM mX11_tree 27 0 0 [.ref 0] (zs true, I, J) (fI (zs true)) (F_X11_tree  I J) := by
  refine S.of okX11_tree pn_X11 (Nat.le_of_ble_eq_true rfl) ?_
  refine S.sub (lv' := [(0, .ref 0)]) [0] rfl ?_
  unfold F_X11_tree
  refine S.aload_n 0 0 rfl rfl ?_
  refine S.getR 1 rfl fo_X11_78 rfl rfl rfl ?_
  refine S.cVV (d := 26) (av := []) (rs := []) (b := 48) 2 rfl co_X11_353 rfl rfl rfl rfl rfl ⟨⟨Nat.le_of_ble_eq_true rfl, Nat.le_of_ble_eq_true rfl⟩, ⟨Nat.le_of_ble_eq_true rfl, Nat.le_of_ble_eq_true rfl⟩, Nat.le_of_ble_eq_true rfl⟩ (cm_X7_gather true I J) (fun _ I1 J2 => ?_)
  refine S.aload_n 3 0 rfl rfl ?_
  refine S.getR 4 rfl fo_X11_78 rfl rfl rfl ?_
  refine S.getI 5 rfl fo_X11_356 rfl rfl ?_
  refine S.if_ne 20 6 rfl (by decide) (fun _ => ?_) (fun _ => ?_)
  · refine S.aload_n 9 0 rfl rfl ?_
    refine S.getR 10 rfl fo_X11_87 rfl rfl rfl ?_
    refine S.cVV (d := 26) (av := []) (rs := []) (b := 52) 11 rfl co_X11_374 rfl rfl rfl rfl rfl ⟨⟨Nat.le_of_ble_eq_true rfl, Nat.le_of_ble_eq_true rfl⟩, ⟨Nat.le_of_ble_eq_true rfl, Nat.le_of_ble_eq_true rfl⟩, Nat.le_of_ble_eq_true rfl⟩ (cm_X5_grow I1 J2) (fun _ I3 J4 => ?_)
    exact s_X11_tree_C27 I3 J4
  · refine S.bipush (-2 : Int32) 7 rfl (by decide) ?_
    exact S.iret 8 rfl rfl rfl (Nat.le_refl _) (Nat.le_refl _) rfl
def F_X11_path_L75 (l2 : Int32) (kx125 : Int32 → HI → HJ → Option (Int32 × HI × HJ)) : Nat → Int32 → Int32 → Int32 → Int32 → HI → HJ → Option (Int32 × HI × HJ)
  | 0, _, _, _, _, _, _ => none
  | K+1, l3, l4, l5, l6, I, J =>
    if (8 : Int32) ≤ l6 then
      kx125 l4 I J
    else
      if l5 = (-1 : Int32) then
        kx125 l4 I J
      else
        cl (F_X10_add (Int32.toInt64 l5) I J) fun _ I14 J15 =>
        lb ((l3 ||| (oshl (1 : Int32) l5))) fun x16 =>
        cp (F_X5_firstTest x16 l2 I14 J15) fun r17 =>
        F_X11_path_L75 l2 kx125 K x16 (l4 + 1) r17 (l6 + 1) I14 J15
set_option maxRecDepth 100000 in
theorem s_X11_path_L75 (l2 : Int32) (kx125 : Int32 → HI → HJ → Option (Int32 × HI × HJ)) (hkx125 : ∀ (y4 : Int32) (I1 : HI) (J1 : HJ), S (fI (zs true)) mX11_path (rmd 27 0 0) 0 0 (0, 0) 125 [(0, .ref 0), (2, .int l2), (4, .int y4)] [] (zs true, I1, J1) (kx125 y4 I1 J1)) : ∀ (K : Nat) (l3 : Int32) (l4 : Int32) (l5 : Int32) (l6 : Int32) (I : HI) (J : HJ), S (fI (zs true)) mX11_path (rmd 27 0 0) 0 0 (0, 0) 75 [(0, .ref 0), (2, .int l2), (3, .int l3), (4, .int l4), (5, .int l5), (6, .int l6)] [] (zs true, I, J) (F_X11_path_L75 l2 kx125 K l3 l4 l5 l6 I J) := by
  intro K
  induction K with
  | zero => intro l3 l4 l5 l6 I J; exact S.none
  | succ K ih =>
    intro l3 l4 l5 l6 I J
    rw [F_X11_path_L75]
    refine S.iload 39 5 rfl rfl ?_
    refine S.bipush (8 : Int32) 40 rfl (by decide) ?_
    refine S.icmp_ge 125 41 rfl (by decide) (fun _ => ?_) (fun _ => ?_)
    · refine S.sub (lv' := [(0, .ref 0), (2, .int l2), (4, .int l4)]) [0, 1, 3] rfl ?_
      exact hkx125 _ _ _
    · refine S.iload 42 4 rfl rfl ?_
      refine S.iconst (-1 : Int32) 43 rfl (by decide) ?_
      refine S.icmp_eq 125 44 rfl (by decide) (fun _ => ?_) (fun _ => ?_)
      · refine S.sub (lv' := [(0, .ref 0), (2, .int l2), (4, .int l4)]) [0, 1, 3] rfl ?_
        exact hkx125 _ _ _
      · refine S.aload_n 45 0 rfl rfl ?_
        refine S.getR 46 rfl fo_X11_35 rfl rfl rfl ?_
        refine S.iload 47 4 rfl rfl ?_
        refine S.i2l 48 rfl ?_
        refine S.cVV (d := 1) (av := [.long (Int32.toInt64 l5)]) (rs := [.long (Int32.toInt64 l5)]) (b := 15) 49 rfl co_X11_211 rfl rfl rfl rfl rfl ⟨⟨Nat.le_of_ble_eq_true rfl, Nat.le_of_ble_eq_true rfl⟩, ⟨Nat.le_of_ble_eq_true rfl, Nat.le_of_ble_eq_true rfl⟩, Nat.le_of_ble_eq_true rfl⟩ (cm_X10_add true (Int32.toInt64 l5) I J) (fun _ I14 J15 => ?_)
        refine S.iinc (l4 + 1) [(4, .int (l4 + 1)), (0, .ref 0), (2, .int l2), (3, .int l3), (5, .int l5), (6, .int l6)] 50 3 rfl rfl rfl (by decide) rfl ?_
        refine S.iload_n 51 3 rfl rfl ?_
        refine S.iconst (1 : Int32) 52 rfl (by decide) ?_
        refine S.iload 53 4 rfl rfl ?_
        refine S.ishl 54 rfl ?_
        refine S.ior 55 rfl ?_
        refine S.nmi (fun x16 => ?_)
        refine S.istore_n [(3, .int x16), (4, .int (l4 + 1)), (0, .ref 0), (2, .int l2), (5, .int l5), (6, .int l6)] 56 rfl (by decide) rfl ?_
        refine S.aload_n 57 2 rfl rfl ?_
        refine S.getR 58 rfl fo_X11_87 rfl rfl rfl ?_
        refine S.iload_n 59 0 rfl rfl ?_
        refine S.iload_n 60 3 rfl rfl ?_
        refine S.qVI (d := 4) (av := [.int x16, .int l2]) (rs := [.int l2, .int x16]) (b := 52) 61 rfl co_X11_377 rfl rfl rfl rfl rfl ⟨⟨Nat.le_of_ble_eq_true rfl, Nat.le_of_ble_eq_true rfl⟩, ⟨Nat.le_of_ble_eq_true rfl, Nat.le_of_ble_eq_true rfl⟩, Nat.le_of_ble_eq_true rfl⟩ (cm_X5_firstTest x16 l2 I14 J15) (fun r17 => ?_)
        refine S.istore [(5, .int r17), (3, .int x16), (4, .int (l4 + 1)), (0, .ref 0), (2, .int l2), (6, .int l6)] 62 rfl (by decide) rfl ?_
        refine S.iinc (l6 + 1) [(6, .int (l6 + 1)), (5, .int r17), (3, .int x16), (4, .int (l4 + 1)), (0, .ref 0), (2, .int l2)] 63 5 rfl rfl rfl (by decide) rfl ?_
        refine S.goto 75 64 rfl (by decide) ?_
        refine S.sub (lv' := [(0, .ref 0), (2, .int l2), (3, .int x16), (4, .int (l4 + 1)), (5, .int r17), (6, .int (l6 + 1))]) [4, 5, 2, 3, 1, 0] rfl ?_
        exact ih _ _ _ _ _ _
def F_X11_path_C40 (l1 : Int32) (I : HI) (J : HJ) : Option (Int32 × HI × HJ) :=
  cl (F_X10_clear I J) fun _ I10 J11 =>
  cp (F_X5_groupOfFault l1 I10 J11) fun r12 =>
  cp (F_X5_firstTest (0 : Int32) r12 I10 J11) fun r13 =>
  F_X11_path_L75 r12 (fun (y18 : Int32) (I19 : HI) (J20 : HJ) =>
  cp (F_X5_sizeOfGroup r12 I19 J20) fun r21 =>
  cl (F_X10_add (Int32.toInt64 r21) I19 J20) fun _ I22 J23 =>
  some (y18, I22, J23)) bgf (0 : Int32) (0 : Int32) r13 (0 : Int32) I10 J11
set_option maxRecDepth 100000 in
theorem s_X11_path_C40 (l1 : Int32) (I : HI) (J : HJ) : S (fI (zs true)) mX11_path (rmd 27 0 0) 0 0 (0, 0) 40 [(0, .ref 0), (1, .int l1)] [] (zs true, I, J) (F_X11_path_C40 l1 I J) := by
  unfold F_X11_path_C40
  refine S.aload_n 19 0 rfl rfl ?_
  refine S.getR 20 rfl fo_X11_35 rfl rfl rfl ?_
  refine S.cVV (d := 1) (av := []) (rs := []) (b := 15) 21 rfl co_X11_205 rfl rfl rfl rfl rfl ⟨⟨Nat.le_of_ble_eq_true rfl, Nat.le_of_ble_eq_true rfl⟩, ⟨Nat.le_of_ble_eq_true rfl, Nat.le_of_ble_eq_true rfl⟩, Nat.le_of_ble_eq_true rfl⟩ (cm_X10_clear true I J) (fun _ I10 J11 => ?_)
  refine S.aload_n 22 0 rfl rfl ?_
  refine S.getR 23 rfl fo_X11_87 rfl rfl rfl ?_
  refine S.iload_n 24 1 rfl rfl ?_
  refine S.qVI (d := 1) (av := [.int l1]) (rs := [.int l1]) (b := 52) 25 rfl co_X11_386 rfl rfl rfl rfl rfl ⟨⟨Nat.le_of_ble_eq_true rfl, Nat.le_of_ble_eq_true rfl⟩, ⟨Nat.le_of_ble_eq_true rfl, Nat.le_of_ble_eq_true rfl⟩, Nat.le_of_ble_eq_true rfl⟩ (cm_X5_groupOfFault true l1 I10 J11) (fun r12 => ?_)
  refine S.istore_n [(2, .int r12), (0, .ref 0), (1, .int l1)] 26 rfl (by decide) rfl ?_
  refine S.iconst (0 : Int32) 27 rfl (by decide) ?_
  refine S.istore_n [(3, .int (0 : Int32)), (2, .int r12), (0, .ref 0), (1, .int l1)] 28 rfl (by decide) rfl ?_
  refine S.iconst (0 : Int32) 29 rfl (by decide) ?_
  refine S.istore [(4, .int (0 : Int32)), (3, .int (0 : Int32)), (2, .int r12), (0, .ref 0), (1, .int l1)] 30 rfl (by decide) rfl ?_
  refine S.aload_n 31 3 rfl rfl ?_
  refine S.getR 32 rfl fo_X11_87 rfl rfl rfl ?_
  refine S.iconst (0 : Int32) 33 rfl (by decide) ?_
  refine S.iload_n 34 2 rfl rfl ?_
  refine S.qVI (d := 4) (av := [.int (0 : Int32), .int r12]) (rs := [.int r12, .int (0 : Int32)]) (b := 52) 35 rfl co_X11_377 rfl rfl rfl rfl rfl ⟨⟨Nat.le_of_ble_eq_true rfl, Nat.le_of_ble_eq_true rfl⟩, ⟨Nat.le_of_ble_eq_true rfl, Nat.le_of_ble_eq_true rfl⟩, Nat.le_of_ble_eq_true rfl⟩ (cm_X5_firstTest (0 : Int32) r12 I10 J11) (fun r13 => ?_)
  refine S.istore [(5, .int r13), (4, .int (0 : Int32)), (3, .int (0 : Int32)), (2, .int r12), (0, .ref 0), (1, .int l1)] 36 rfl (by decide) rfl ?_
  refine S.iconst (0 : Int32) 37 rfl (by decide) ?_
  refine S.istore [(6, .int (0 : Int32)), (5, .int r13), (4, .int (0 : Int32)), (3, .int (0 : Int32)), (2, .int r12), (0, .ref 0), (1, .int l1)] 38 rfl (by decide) rfl ?_
  refine S.sub (lv' := [(0, .ref 0), (2, .int r12), (3, .int (0 : Int32)), (4, .int (0 : Int32)), (5, .int r13), (6, .int (0 : Int32))]) [5, 4, 3, 2, 1, 0] rfl ?_
  refine s_X11_path_L75 _ _ (fun y18 I19 J20 => ?_) bgf _ _ _ _ _ _
  refine S.aload_n 65 0 rfl rfl ?_
  refine S.getR 66 rfl fo_X11_35 rfl rfl rfl ?_
  refine S.aload_n 67 0 rfl rfl ?_
  refine S.getR 68 rfl fo_X11_87 rfl rfl rfl ?_
  refine S.iload_n 69 1 rfl rfl ?_
  refine S.qVI (d := 1) (av := [.int r12]) (rs := [.int r12]) (b := 52) 70 rfl co_X11_389 rfl rfl rfl rfl rfl ⟨⟨Nat.le_of_ble_eq_true rfl, Nat.le_of_ble_eq_true rfl⟩, ⟨Nat.le_of_ble_eq_true rfl, Nat.le_of_ble_eq_true rfl⟩, Nat.le_of_ble_eq_true rfl⟩ (cm_X5_sizeOfGroup true r12 I19 J20) (fun r21 => ?_)
  refine S.i2l 71 rfl ?_
  refine S.cVV (d := 1) (av := [.long (Int32.toInt64 r21)]) (rs := [.long (Int32.toInt64 r21)]) (b := 15) 72 rfl co_X11_211 rfl rfl rfl rfl rfl ⟨⟨Nat.le_of_ble_eq_true rfl, Nat.le_of_ble_eq_true rfl⟩, ⟨Nat.le_of_ble_eq_true rfl, Nat.le_of_ble_eq_true rfl⟩, Nat.le_of_ble_eq_true rfl⟩ (cm_X10_add true (Int32.toInt64 r21) I19 J20) (fun _ I22 J23 => ?_)
  refine S.iload 73 2 rfl rfl ?_
  exact S.iret 74 rfl rfl rfl (Nat.le_refl _) (Nat.le_refl _) rfl
def F_X11_path (l1 : Int32) (I : HI) (J : HJ) : Option (Int32 × HI × HJ) :=
  cp (F_X7_has l1 I J) fun r2 =>
  if r2 = 0 then
    some ((-1 : Int32), I, J)
  else
    cl (F_X7_firstAgainst l1 I J) fun r3 I4 J5 =>
    if r3 = (-2 : Int32) then
      cl (F_X7_gather I4 J5) fun _ I6 J7 =>
      cl (F_X5_grow I6 J7) fun _ I8 J9 =>
      F_X11_path_C40 l1 I8 J9
    else
      some ((-1 : Int32), I4, J5)
set_option maxRecDepth 100000 in
theorem cm_X11_path (l1 : Int32) (I : HI) (J : HJ) : CM mX11_path 27 0 0 [.ref 0, .int l1] (zs true, I, J) (fI (zs true)) (F_X11_path l1 I J) := by
  refine S.of okX11_path pn_X11 (Nat.le_of_ble_eq_true rfl) ?_
  refine S.sub (lv' := [(0, .ref 0), (1, .int l1)]) [0, 1] rfl ?_
  unfold F_X11_path
  refine S.aload_n 0 0 rfl rfl ?_
  refine S.getR 1 rfl fo_X11_78 rfl rfl rfl ?_
  refine S.iload_n 2 1 rfl rfl ?_
  refine S.qVI (d := 4) (av := [.int l1]) (rs := [.int l1]) (b := 48) 3 rfl co_X11_326 rfl rfl rfl rfl rfl ⟨⟨Nat.le_of_ble_eq_true rfl, Nat.le_of_ble_eq_true rfl⟩, ⟨Nat.le_of_ble_eq_true rfl, Nat.le_of_ble_eq_true rfl⟩, Nat.le_of_ble_eq_true rfl⟩ (cm_X7_has true l1 I J) (fun r2 => ?_)
  refine S.if_eq 24 4 rfl (by decide) (fun _ => ?_) (fun _ => ?_)
  · refine S.iconst (-1 : Int32) 11 rfl (by decide) ?_
    exact S.iret 12 rfl rfl rfl (Nat.le_refl _) (Nat.le_refl _) rfl
  · refine S.aload_n 5 0 rfl rfl ?_
    refine S.getR 6 rfl fo_X11_78 rfl rfl rfl ?_
    refine S.iload_n 7 1 rfl rfl ?_
    refine S.cVI (d := 25) (av := [.int l1]) (rs := [.int l1]) (b := 48) 8 rfl co_X11_362 rfl rfl rfl rfl rfl ⟨⟨Nat.le_of_ble_eq_true rfl, Nat.le_of_ble_eq_true rfl⟩, ⟨Nat.le_of_ble_eq_true rfl, Nat.le_of_ble_eq_true rfl⟩, Nat.le_of_ble_eq_true rfl⟩ (cm_X7_firstAgainst true l1 I J) (fun r3 I4 J5 => ?_)
    refine S.bipush (-2 : Int32) 9 rfl (by decide) ?_
    refine S.icmp_eq 26 10 rfl (by decide) (fun _ => ?_) (fun _ => ?_)
    · refine S.aload_n 13 0 rfl rfl ?_
      refine S.getR 14 rfl fo_X11_78 rfl rfl rfl ?_
      refine S.cVV (d := 26) (av := []) (rs := []) (b := 48) 15 rfl co_X11_353 rfl rfl rfl rfl rfl ⟨⟨Nat.le_of_ble_eq_true rfl, Nat.le_of_ble_eq_true rfl⟩, ⟨Nat.le_of_ble_eq_true rfl, Nat.le_of_ble_eq_true rfl⟩, Nat.le_of_ble_eq_true rfl⟩ (cm_X7_gather true I4 J5) (fun _ I6 J7 => ?_)
      refine S.aload_n 16 0 rfl rfl ?_
      refine S.getR 17 rfl fo_X11_87 rfl rfl rfl ?_
      refine S.cVV (d := 26) (av := []) (rs := []) (b := 52) 18 rfl co_X11_374 rfl rfl rfl rfl rfl ⟨⟨Nat.le_of_ble_eq_true rfl, Nat.le_of_ble_eq_true rfl⟩, ⟨Nat.le_of_ble_eq_true rfl, Nat.le_of_ble_eq_true rfl⟩, Nat.le_of_ble_eq_true rfl⟩ (cm_X5_grow I6 J7) (fun _ I8 J9 => ?_)
      exact s_X11_path_C40 l1 I8 J9
    · refine S.iconst (-1 : Int32) 11 rfl (by decide) ?_
      exact S.iret 12 rfl rfl rfl (Nat.le_refl _) (Nat.le_refl _) rfl
def F_X11_keep (l1 : Int32) (I : HI) (J : HJ) : Option (Int32 × HI × HJ) :=
  if l1 < 0 then
    some ((0 : Int32), I, J)
  else
    if l1 < (2 : Int32) then
      bx l1 2 <|
      if Int32.toNatClampNeg l1 = 0 then
        cl (F_X2_take_63_1_25 I J) fun _ I1 J2 =>
        some ((1 : Int32), I1, J2)
      else
        cl (F_X2_take_72_1_25 I J) fun _ I3 J4 =>
        some ((1 : Int32), I3, J4)
    else
      some ((0 : Int32), I, J)
set_option maxRecDepth 100000 in
theorem cm_X11_keep (b : Bool) (l1 : Int32) (I : HI) (J : HJ) : CM mX11_keep 3 0 0 [.ref 0, .int l1] (zs b, I, J) (fI (zs b)) (F_X11_keep l1 I J) := by
  refine S.of okX11_keep pn_X11 (Nat.le_of_ble_eq_true rfl) ?_
  refine S.sub (lv' := [(0, .ref 0), (1, .int l1)]) [0, 1] rfl ?_
  unfold F_X11_keep
  refine S.iload_n 0 1 rfl rfl ?_
  refine S.if_lt 13 1 rfl (by decide) (fun _ => ?_) (fun _ => ?_)
  · refine S.iconst (0 : Int32) 7 rfl (by decide) ?_
    exact S.iret 8 rfl rfl rfl (Nat.le_refl _) (Nat.le_refl _) rfl
  · refine S.iload_n 2 1 rfl rfl ?_
    refine S.aload_n 3 0 rfl rfl ?_
    refine S.getR 4 rfl fo_X11_94 rfl rfl rfl ?_
    refine S.alen (2 : Int32) 5 rfl rfl (by decide) (by decide) (by decide) ?_
    refine S.icmp_lt 15 6 rfl (by decide) (fun _ => ?_) (fun _ => ?_)
    · refine S.aload_n 9 0 rfl rfl ?_
      refine S.getR 10 rfl fo_X11_94 rfl rfl rfl ?_
      refine S.iload_n 11 1 rfl rfl ?_
      refine S.gbx (fun hin => ?_)
      refine S.ite (fun c => ?_) (fun c => ?_)
      · refine S.aaldN 12 rfl rfl hin (by rw [c]; rfl) ?_
        refine S.aload_n 13 0 rfl rfl ?_
        refine S.getR 14 rfl fo_X11_10 rfl rfl rfl ?_
        refine S.aload_n 15 0 rfl rfl ?_
        refine S.getR 16 rfl fo_X11_51 rfl rfl rfl ?_
        refine S.cVV (d := 2) (av := [.ref 1, .ref 25]) (rs := [.ref 25, .ref 1]) (b := 63) 17 rfl co_X11_392 rfl rfl rfl rfl rfl ⟨⟨Nat.le_of_ble_eq_true rfl, Nat.le_of_ble_eq_true rfl⟩, ⟨Nat.le_of_ble_eq_true rfl, Nat.le_of_ble_eq_true rfl⟩, Nat.le_of_ble_eq_true rfl⟩ (cm_X2_take_63_1_25 b I J) (fun _ I1 J2 => ?_)
        refine S.iconst (1 : Int32) 18 rfl (by decide) ?_
        exact S.iret 19 rfl rfl rfl (Nat.le_refl _) (Nat.le_refl _) rfl
      · refine S.aaldN 12 rfl rfl hin (by have h9 : Int32.toNatClampNeg l1 < 2 := Nat.lt_of_not_le fun z => hin (Or.inr z); rw [show Int32.toNatClampNeg l1 = 1 by omega]; rfl) ?_
        refine S.aload_n 13 0 rfl rfl ?_
        refine S.getR 14 rfl fo_X11_10 rfl rfl rfl ?_
        refine S.aload_n 15 0 rfl rfl ?_
        refine S.getR 16 rfl fo_X11_51 rfl rfl rfl ?_
        refine S.cVV (d := 2) (av := [.ref 1, .ref 25]) (rs := [.ref 25, .ref 1]) (b := 72) 17 rfl co_X11_392 rfl rfl rfl rfl rfl ⟨⟨Nat.le_of_ble_eq_true rfl, Nat.le_of_ble_eq_true rfl⟩, ⟨Nat.le_of_ble_eq_true rfl, Nat.le_of_ble_eq_true rfl⟩, Nat.le_of_ble_eq_true rfl⟩ (cm_X2_take_72_1_25 b I J) (fun _ I3 J4 => ?_)
        refine S.iconst (1 : Int32) 18 rfl (by decide) ?_
        exact S.iret 19 rfl rfl rfl (Nat.le_refl _) (Nat.le_refl _) rfl
    · refine S.iconst (0 : Int32) 7 rfl (by decide) ?_
      exact S.iret 8 rfl rfl rfl (Nat.le_refl _) (Nat.le_refl _) rfl
def F_X11_again (l1 : Int32) (I : HI) (J : HJ) : Option (Int32 × HI × HJ) :=
  if l1 < 0 then
    some ((0 : Int32), I, J)
  else
    if (2 : Int32) ≤ l1 then
      some ((0 : Int32), I, J)
    else
      bx l1 2 <|
      if Int32.toNatClampNeg l1 = 0 then
        if (I x_kept_0 f_Kept_full) = 0 then
          some ((0 : Int32), I, J)
        else
          bx l1 2 <|
          if Int32.toNatClampNeg l1 = 0 then
            cl (F_X2_give_63_1_25 I J) fun _ I3 J4 =>
            lb (ui I3 x_table f_Table_fresh (0 : Int32)) fun I5 =>
            some ((1 : Int32), I5, J4)
          else
            cl (F_X2_give_72_1_25 I J) fun _ I6 J7 =>
            lb (ui I6 x_table f_Table_fresh (0 : Int32)) fun I8 =>
            some ((1 : Int32), I8, J7)
      else
        if (I x_kept_1 f_Kept_full) = 0 then
          some ((0 : Int32), I, J)
        else
          bx l1 2 <|
          if Int32.toNatClampNeg l1 = 0 then
            cl (F_X2_give_63_1_25 I J) fun _ I9 J10 =>
            lb (ui I9 x_table f_Table_fresh (0 : Int32)) fun I11 =>
            some ((1 : Int32), I11, J10)
          else
            cl (F_X2_give_72_1_25 I J) fun _ I12 J13 =>
            lb (ui I12 x_table f_Table_fresh (0 : Int32)) fun I14 =>
            some ((1 : Int32), I14, J13)
set_option maxRecDepth 100000 in
theorem cm_X11_again (b : Bool) (l1 : Int32) (I : HI) (J : HJ) : CM mX11_again 4 0 0 [.ref 0, .int l1] (zs b, I, J) (fI (zs b)) (F_X11_again l1 I J) := by
  refine S.of okX11_again pn_X11 (Nat.le_of_ble_eq_true rfl) ?_
  refine S.sub (lv' := [(0, .ref 0), (1, .int l1)]) [0, 1] rfl ?_
  unfold F_X11_again
  refine S.iload_n 0 1 rfl rfl ?_
  refine S.if_lt 25 1 rfl (by decide) (fun _ => ?_) (fun _ => ?_)
  · refine S.iconst (0 : Int32) 13 rfl (by decide) ?_
    exact S.iret 14 rfl rfl rfl (Nat.le_refl _) (Nat.le_refl _) rfl
  · refine S.iload_n 2 1 rfl rfl ?_
    refine S.aload_n 3 0 rfl rfl ?_
    refine S.getR 4 rfl fo_X11_94 rfl rfl rfl ?_
    refine S.alen (2 : Int32) 5 rfl rfl (by decide) (by decide) (by decide) ?_
    refine S.icmp_ge 25 6 rfl (by decide) (fun _ => ?_) (fun _ => ?_)
    · refine S.iconst (0 : Int32) 13 rfl (by decide) ?_
      exact S.iret 14 rfl rfl rfl (Nat.le_refl _) (Nat.le_refl _) rfl
    · refine S.aload_n 7 0 rfl rfl ?_
      refine S.getR 8 rfl fo_X11_94 rfl rfl rfl ?_
      refine S.iload_n 9 1 rfl rfl ?_
      refine S.gbx (fun hin => ?_)
      refine S.ite (fun c => ?_) (fun c => ?_)
      · refine S.aaldN 10 rfl rfl hin (by rw [c]; rfl) ?_
        refine S.getI 11 rfl fo_X11_396 rfl rfl ?_
        refine S.if_ne 27 12 rfl (by decide) (fun _ => ?_) (fun _ => ?_)
        · refine S.aload_n 15 0 rfl rfl ?_
          refine S.getR 16 rfl fo_X11_94 rfl rfl rfl ?_
          refine S.iload_n 17 1 rfl rfl ?_
          refine S.gbx (fun hin => ?_)
          refine S.ite (fun c => ?_) (fun c => ?_)
          · refine S.aaldN 18 rfl rfl hin (by rw [c]; rfl) ?_
            refine S.aload_n 19 0 rfl rfl ?_
            refine S.getR 20 rfl fo_X11_10 rfl rfl rfl ?_
            refine S.aload_n 21 0 rfl rfl ?_
            refine S.getR 22 rfl fo_X11_51 rfl rfl rfl ?_
            refine S.cVV (d := 3) (av := [.ref 1, .ref 25]) (rs := [.ref 25, .ref 1]) (b := 63) 23 rfl co_X11_399 rfl rfl rfl rfl rfl ⟨⟨Nat.le_of_ble_eq_true rfl, Nat.le_of_ble_eq_true rfl⟩, ⟨Nat.le_of_ble_eq_true rfl, Nat.le_of_ble_eq_true rfl⟩, Nat.le_of_ble_eq_true rfl⟩ (cm_X2_give_63_1_25 b I J) (fun _ I3 J4 => ?_)
            refine S.aload_n 24 0 rfl rfl ?_
            refine S.getR 25 rfl fo_X11_60 rfl rfl rfl ?_
            refine S.iconst (0 : Int32) 26 rfl (by decide) ?_
            refine S.putI 27 rfl fo_X11_123 rfl rfl (by decide) (by decide) (fun _ hq => by cases hq; exact Or.inl rfl) (fun I5 => ?_)
            refine S.iconst (1 : Int32) 28 rfl (by decide) ?_
            exact S.iret 29 rfl rfl rfl (Nat.le_refl _) (Nat.le_refl _) rfl
          · refine S.aaldN 18 rfl rfl hin (by have h9 : Int32.toNatClampNeg l1 < 2 := Nat.lt_of_not_le fun z => hin (Or.inr z); rw [show Int32.toNatClampNeg l1 = 1 by omega]; rfl) ?_
            refine S.aload_n 19 0 rfl rfl ?_
            refine S.getR 20 rfl fo_X11_10 rfl rfl rfl ?_
            refine S.aload_n 21 0 rfl rfl ?_
            refine S.getR 22 rfl fo_X11_51 rfl rfl rfl ?_
            refine S.cVV (d := 3) (av := [.ref 1, .ref 25]) (rs := [.ref 25, .ref 1]) (b := 72) 23 rfl co_X11_399 rfl rfl rfl rfl rfl ⟨⟨Nat.le_of_ble_eq_true rfl, Nat.le_of_ble_eq_true rfl⟩, ⟨Nat.le_of_ble_eq_true rfl, Nat.le_of_ble_eq_true rfl⟩, Nat.le_of_ble_eq_true rfl⟩ (cm_X2_give_72_1_25 b I J) (fun _ I6 J7 => ?_)
            refine S.aload_n 24 0 rfl rfl ?_
            refine S.getR 25 rfl fo_X11_60 rfl rfl rfl ?_
            refine S.iconst (0 : Int32) 26 rfl (by decide) ?_
            refine S.putI 27 rfl fo_X11_123 rfl rfl (by decide) (by decide) (fun _ hq => by cases hq; exact Or.inl rfl) (fun I8 => ?_)
            refine S.iconst (1 : Int32) 28 rfl (by decide) ?_
            exact S.iret 29 rfl rfl rfl (Nat.le_refl _) (Nat.le_refl _) rfl
        · refine S.iconst (0 : Int32) 13 rfl (by decide) ?_
          exact S.iret 14 rfl rfl rfl (Nat.le_refl _) (Nat.le_refl _) rfl
      · refine S.aaldN 10 rfl rfl hin (by have h9 : Int32.toNatClampNeg l1 < 2 := Nat.lt_of_not_le fun z => hin (Or.inr z); rw [show Int32.toNatClampNeg l1 = 1 by omega]; rfl) ?_
        refine S.getI 11 rfl fo_X11_396 rfl rfl ?_
        refine S.if_ne 27 12 rfl (by decide) (fun _ => ?_) (fun _ => ?_)
        · refine S.aload_n 15 0 rfl rfl ?_
          refine S.getR 16 rfl fo_X11_94 rfl rfl rfl ?_
          refine S.iload_n 17 1 rfl rfl ?_
          refine S.gbx (fun hin => ?_)
          refine S.ite (fun c => ?_) (fun c => ?_)
          · refine S.aaldN 18 rfl rfl hin (by rw [c]; rfl) ?_
            refine S.aload_n 19 0 rfl rfl ?_
            refine S.getR 20 rfl fo_X11_10 rfl rfl rfl ?_
            refine S.aload_n 21 0 rfl rfl ?_
            refine S.getR 22 rfl fo_X11_51 rfl rfl rfl ?_
            refine S.cVV (d := 3) (av := [.ref 1, .ref 25]) (rs := [.ref 25, .ref 1]) (b := 63) 23 rfl co_X11_399 rfl rfl rfl rfl rfl ⟨⟨Nat.le_of_ble_eq_true rfl, Nat.le_of_ble_eq_true rfl⟩, ⟨Nat.le_of_ble_eq_true rfl, Nat.le_of_ble_eq_true rfl⟩, Nat.le_of_ble_eq_true rfl⟩ (cm_X2_give_63_1_25 b I J) (fun _ I9 J10 => ?_)
            refine S.aload_n 24 0 rfl rfl ?_
            refine S.getR 25 rfl fo_X11_60 rfl rfl rfl ?_
            refine S.iconst (0 : Int32) 26 rfl (by decide) ?_
            refine S.putI 27 rfl fo_X11_123 rfl rfl (by decide) (by decide) (fun _ hq => by cases hq; exact Or.inl rfl) (fun I11 => ?_)
            refine S.iconst (1 : Int32) 28 rfl (by decide) ?_
            exact S.iret 29 rfl rfl rfl (Nat.le_refl _) (Nat.le_refl _) rfl
          · refine S.aaldN 18 rfl rfl hin (by have h9 : Int32.toNatClampNeg l1 < 2 := Nat.lt_of_not_le fun z => hin (Or.inr z); rw [show Int32.toNatClampNeg l1 = 1 by omega]; rfl) ?_
            refine S.aload_n 19 0 rfl rfl ?_
            refine S.getR 20 rfl fo_X11_10 rfl rfl rfl ?_
            refine S.aload_n 21 0 rfl rfl ?_
            refine S.getR 22 rfl fo_X11_51 rfl rfl rfl ?_
            refine S.cVV (d := 3) (av := [.ref 1, .ref 25]) (rs := [.ref 25, .ref 1]) (b := 72) 23 rfl co_X11_399 rfl rfl rfl rfl rfl ⟨⟨Nat.le_of_ble_eq_true rfl, Nat.le_of_ble_eq_true rfl⟩, ⟨Nat.le_of_ble_eq_true rfl, Nat.le_of_ble_eq_true rfl⟩, Nat.le_of_ble_eq_true rfl⟩ (cm_X2_give_72_1_25 b I J) (fun _ I12 J13 => ?_)
            refine S.aload_n 24 0 rfl rfl ?_
            refine S.getR 25 rfl fo_X11_60 rfl rfl rfl ?_
            refine S.iconst (0 : Int32) 26 rfl (by decide) ?_
            refine S.putI 27 rfl fo_X11_123 rfl rfl (by decide) (by decide) (fun _ hq => by cases hq; exact Or.inl rfl) (fun I14 => ?_)
            refine S.iconst (1 : Int32) 28 rfl (by decide) ?_
            exact S.iret 29 rfl rfl rfl (Nat.le_refl _) (Nat.le_refl _) rfl
        · refine S.iconst (0 : Int32) 13 rfl (by decide) ?_
          exact S.iret 14 rfl rfl rfl (Nat.le_refl _) (Nat.le_refl _) rfl
def F_X11_count (l1 : Int32) (I : HI) (J : HJ) : Option Int32 :=
  if l1 = 0 then
    some (I x_board f_Board_wide)
  else if l1 = 1 then
    some (I x_board f_Board_lamps)
  else if l1 = 2 then
    some (I x_board f_Board_supply)
  else if l1 = 3 then
    some (I x_notes f_Notes_high)
  else if l1 = 4 then
    some (I x_notes f_Notes_low)
  else if l1 = 5 then
    some (I x_notes f_Notes_seenSize)
  else if l1 = 6 then
    some (I x_plan f_Plan_tests)
  else if l1 = 7 then
    some (I x_told f_Told_size)
  else if l1 = 8 then
    some (I x_text f_Text_size)
  else 
    some (-1 : Int32)
set_option maxRecDepth 100000 in
theorem cm_X11_count (b : Bool) (l1 : Int32) (I : HI) (J : HJ) : CM mX11_count 1 0 0 [.ref 0, .int l1] (zs b, I, J) (pI (zs b, I, J)) (F_X11_count l1 I J) := by
  refine S.of okX11_count pn_X11 (Nat.le_of_ble_eq_true rfl) ?_
  refine S.sub (lv' := [(0, .ref 0), (1, .int l1)]) [0, 1] rfl ?_
  unfold F_X11_count
  refine S.iload_n 0 1 rfl rfl ?_
  refine S.ite (fun c0 => ?_) (fun c0 => ?_)
  · refine S.tswIn 52 1 rfl (by rw [c0]; decide) (by rw [c0]; decide) (by rw [c0]; rfl) (by decide) ?_
    refine S.aload_n 2 0 rfl rfl ?_
    refine S.getR 3 rfl fo_X11_10 rfl rfl rfl ?_
    refine S.getI 4 rfl fo_X11_106 rfl rfl ?_
    exact S.iret 5 rfl rfl rfl (Nat.le_refl _) (Nat.le_refl _) rfl
  refine S.ite (fun c1 => ?_) (fun c1 => ?_)
  · refine S.tswIn 60 1 rfl (by rw [c1]; decide) (by rw [c1]; decide) (by rw [c1]; rfl) (by decide) ?_
    refine S.aload_n 6 0 rfl rfl ?_
    refine S.getR 7 rfl fo_X11_10 rfl rfl rfl ?_
    refine S.getI 8 rfl fo_X11_109 rfl rfl ?_
    exact S.iret 9 rfl rfl rfl (Nat.le_refl _) (Nat.le_refl _) rfl
  refine S.ite (fun c2 => ?_) (fun c2 => ?_)
  · refine S.tswIn 68 1 rfl (by rw [c2]; decide) (by rw [c2]; decide) (by rw [c2]; rfl) (by decide) ?_
    refine S.aload_n 10 0 rfl rfl ?_
    refine S.getR 11 rfl fo_X11_10 rfl rfl rfl ?_
    refine S.getI 12 rfl fo_X11_127 rfl rfl ?_
    exact S.iret 13 rfl rfl rfl (Nat.le_refl _) (Nat.le_refl _) rfl
  refine S.ite (fun c3 => ?_) (fun c3 => ?_)
  · refine S.tswIn 76 1 rfl (by rw [c3]; decide) (by rw [c3]; decide) (by rw [c3]; rfl) (by decide) ?_
    refine S.aload_n 14 0 rfl rfl ?_
    refine S.getR 15 rfl fo_X11_51 rfl rfl rfl ?_
    refine S.getI 16 rfl fo_X11_180 rfl rfl ?_
    exact S.iret 17 rfl rfl rfl (Nat.le_refl _) (Nat.le_refl _) rfl
  refine S.ite (fun c4 => ?_) (fun c4 => ?_)
  · refine S.tswIn 84 1 rfl (by rw [c4]; decide) (by rw [c4]; decide) (by rw [c4]; rfl) (by decide) ?_
    refine S.aload_n 18 0 rfl rfl ?_
    refine S.getR 19 rfl fo_X11_51 rfl rfl rfl ?_
    refine S.getI 20 rfl fo_X11_183 rfl rfl ?_
    exact S.iret 21 rfl rfl rfl (Nat.le_refl _) (Nat.le_refl _) rfl
  refine S.ite (fun c5 => ?_) (fun c5 => ?_)
  · refine S.tswIn 92 1 rfl (by rw [c5]; decide) (by rw [c5]; decide) (by rw [c5]; rfl) (by decide) ?_
    refine S.aload_n 22 0 rfl rfl ?_
    refine S.getR 23 rfl fo_X11_51 rfl rfl rfl ?_
    refine S.getI 24 rfl fo_X11_350 rfl rfl ?_
    exact S.iret 25 rfl rfl rfl (Nat.le_refl _) (Nat.le_refl _) rfl
  refine S.ite (fun c6 => ?_) (fun c6 => ?_)
  · refine S.tswIn 100 1 rfl (by rw [c6]; decide) (by rw [c6]; decide) (by rw [c6]; rfl) (by decide) ?_
    refine S.aload_n 26 0 rfl rfl ?_
    refine S.getR 27 rfl fo_X11_87 rfl rfl rfl ?_
    refine S.getI 28 rfl fo_X11_371 rfl rfl ?_
    exact S.iret 29 rfl rfl rfl (Nat.le_refl _) (Nat.le_refl _) rfl
  refine S.ite (fun c7 => ?_) (fun c7 => ?_)
  · refine S.tswIn 108 1 rfl (by rw [c7]; decide) (by rw [c7]; decide) (by rw [c7]; rfl) (by decide) ?_
    refine S.aload_n 30 0 rfl rfl ?_
    refine S.getR 31 rfl fo_X11_35 rfl rfl rfl ?_
    refine S.getI 32 rfl fo_X11_402 rfl rfl ?_
    exact S.iret 33 rfl rfl rfl (Nat.le_refl _) (Nat.le_refl _) rfl
  refine S.ite (fun c8 => ?_) (fun c8 => ?_)
  · refine S.tswIn 116 1 rfl (by rw [c8]; decide) (by rw [c8]; decide) (by rw [c8]; rfl) (by decide) ?_
    refine S.aload_n 34 0 rfl rfl ?_
    refine S.getR 35 rfl fo_X11_19 rfl rfl rfl ?_
    refine S.getI 36 rfl fo_X11_102 rfl rfl ?_
    exact S.iret 37 rfl rfl rfl (Nat.le_refl _) (Nat.le_refl _) rfl
  · refine S.tswOut 124 1 rfl (tsw_out 0 8 (fun n h1 h2 => ?_)) (by decide) ?_
    · have h9 : n = 0 ∨ n = 1 ∨ n = 2 ∨ n = 3 ∨ n = 4 ∨ n = 5 ∨ n = 6 ∨ n = 7 ∨ n = 8 := by omega
      rcases h9 with rfl | rfl | rfl | rfl | rfl | rfl | rfl | rfl | rfl
      · exact c0
      · exact c1
      · exact c2
      · exact c3
      · exact c4
      · exact c5
      · exact c6
      · exact c7
      · exact c8
    refine S.iconst (-1 : Int32) 38 rfl (by decide) ?_
    exact S.iret 39 rfl rfl rfl (Nat.le_refl _) (Nat.le_refl _) rfl

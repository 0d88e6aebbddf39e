/-! computations and their proofs: J6 J7 J13 X0 X3 X9 X10 X11_wiresThatAre X11_settingsOf -/
def F_X9_append_L19 (l1 : Int32) (J : HJ) : Nat → Int32 → HI → Option (Int32 × HI × HJ)
  | 0, _, _ => none
  | K+1, l2, I =>
    if l2 < 0 then
      some ((1 : Int32), I, J)
    else
      bx (I x_text f_Text_size) 80 <|
      lb (ui I x_text_signs (Int32.toNatClampNeg (I x_text f_Text_size)) (vp_nar .char (oi2c ((oushr l1 l2) &&& (255 : Int32))))) fun I3 =>
      lb (ui I3 x_text f_Text_size ((I3 x_text f_Text_size) + (1 : Int32))) fun I4 =>
      F_X9_append_L19 l1 J K (l2 + (-8)) I4
set_option maxRecDepth 100000 in
theorem s_X9_append_L19 (b : Bool) (l1 : Int32) (J : HJ) : ∀ (K : Nat) (l2 : Int32) (I : HI), S (fI (zs b)) mX9_append (rmd 1 0 0) 0 0 (0, 0) 19 [(0, .ref 8), (1, .int l1), (2, .int l2)] [] (zs b, I, J) (F_X9_append_L19 l1 J K l2 I) := by
  intro K
  induction K with
  | zero => intro l2 I; exact S.none
  | succ K ih =>
    intro l2 I
    rw [F_X9_append_L19]
    refine S.iload_n 12 2 rfl rfl ?_
    refine S.if_lt 56 13 rfl (by decide) (fun _ => ?_) (fun _ => ?_)
    · refine S.iconst (1 : Int32) 33 rfl (by decide) ?_
      exact S.iret 34 rfl rfl rfl (Nat.le_refl _) (Nat.le_refl _) rfl
    · refine S.aload_n 14 0 rfl rfl ?_
      refine S.getR 15 rfl fo_X9_7 rfl rfl rfl ?_
      refine S.aload_n 16 0 rfl rfl ?_
      refine S.getI 17 rfl fo_X9_13 rfl rfl ?_
      refine S.iload_n 18 1 rfl rfl ?_
      refine S.iload_n 19 2 rfl rfl ?_
      refine S.iushr 20 rfl ?_
      refine S.sipush (255 : Int32) 21 rfl (by decide) ?_
      refine S.iand 22 rfl ?_
      refine S.i2c 23 rfl ?_
      refine S.cast 24 rfl rfl (fun I3 => ?_)
      refine S.aload_n 25 0 rfl rfl ?_
      refine S.dup 26 rfl rfl ?_
      refine S.getI 27 rfl fo_X9_13 rfl rfl ?_
      refine S.iconst (1 : Int32) 28 rfl (by decide) ?_
      refine S.iadd 29 rfl ?_
      refine S.putI 30 rfl fo_X9_13 rfl rfl rfl rfl (fun _ hq => by cases hq; exact Or.inl rfl) (fun I4 => ?_)
      refine S.iinc (l2 + (-8)) [(2, .int (l2 + (-8))), (0, .ref 8), (1, .int l1)] 31 2 rfl rfl rfl (by decide) rfl ?_
      refine S.goto 19 32 rfl (by decide) ?_
      refine S.sub (lv' := [(0, .ref 8), (1, .int l1), (2, .int (l2 + (-8)))]) [1, 2, 0] rfl ?_
      exact ih _ _
def F_X9_append (l1 : Int32) (I : HI) (J : HJ) : Option (Int32 × HI × HJ) :=
  if ((I x_text f_Text_size) + (4 : Int32)) ≤ (80 : Int32) then
    F_X9_append_L19 l1 J bgf (24 : Int32) I
  else
    some ((0 : Int32), I, J)
set_option maxRecDepth 100000 in
theorem cm_X9_append (b : Bool) (l1 : Int32) (I : HI) (J : HJ) : CM mX9_append 1 0 0 [.ref 8, .int l1] (zs b, I, J) (fI (zs b)) (F_X9_append l1 I J) := by
  refine S.of okX9_append pn_X9 (Nat.le_of_ble_eq_true rfl) ?_
  refine S.sub (lv' := [(0, .ref 8), (1, .int l1)]) [0, 1] rfl ?_
  unfold F_X9_append
  refine S.aload_n 0 0 rfl rfl ?_
  refine S.getI 1 rfl fo_X9_13 rfl rfl ?_
  refine S.iconst (4 : Int32) 2 rfl (by decide) ?_
  refine S.iadd 3 rfl ?_
  refine S.aload_n 4 0 rfl rfl ?_
  refine S.getR 5 rfl fo_X9_7 rfl rfl rfl ?_
  refine S.alen (80 : Int32) 6 rfl rfl (by decide) (by decide) (by decide) ?_
  refine S.icmp_le 16 7 rfl (by decide) (fun _ => ?_) (fun _ => ?_)
  · refine S.bipush (24 : Int32) 10 rfl (by decide) ?_
    refine S.istore_n [(2, .int (24 : Int32)), (0, .ref 8), (1, .int l1)] 11 rfl (by decide) rfl ?_
    refine S.sub (lv' := [(0, .ref 8), (1, .int l1), (2, .int (24 : Int32))]) [1, 2, 0] rfl ?_
    refine s_X9_append_L19 b _ _ bgf _ _
  · refine S.iconst (0 : Int32) 8 rfl (by decide) ?_
    exact S.iret 9 rfl rfl rfl (Nat.le_refl _) (Nat.le_refl _) rfl
def F_J7_fill_d0a16_6_L6 (l1 : Int64) (l4 : Int32) (I : HI) : Nat → Int32 → HJ → Option (Unit × HI × HJ)
  | 0, _, _ => none
  | K+1, l3, J =>
    if l4 ≤ l3 then
      some ((), I, J)
    else
      bx l3 10 <|
      lb (uj J x_board_out (Int32.toNatClampNeg l3) l1) fun J2 =>
      F_J7_fill_d0a16_6_L6 l1 l4 I K (l3 + 1) J2
set_option maxRecDepth 100000 in
theorem s_J7_fill_d0a16_6_L6 (b : Bool) (l1 : Int64) (l4 : Int32) (I : HI) : ∀ (K : Nat) (l3 : Int32) (J : HJ), S (fV (zs b)) mJ7_fill_d0a16 (rmd 1 0 0) 0 0 (0, 0) 6 [(0, .ref 6), (1, .long l1), (3, .int l3), (4, .int l4)] [] (zs b, I, J) (F_J7_fill_d0a16_6_L6 l1 l4 I K l3 J) := by
  intro K
  induction K with
  | zero => intro l3 J; exact S.none
  | succ K ih =>
    intro l3 J
    rw [F_J7_fill_d0a16_6_L6]
    refine S.iload_n 5 2 rfl rfl ?_
    refine S.iload 6 3 rfl rfl ?_
    refine S.icmp_ge 22 7 rfl (by decide) (fun _ => ?_) (fun _ => ?_)
    · exact S.vret 14 rfl rfl (Nat.le_refl _) (Nat.le_refl _) rfl
    · refine S.aload_n 8 0 rfl rfl ?_
      refine S.iload_n 9 2 rfl rfl ?_
      refine S.lload_n 10 1 rfl rfl ?_
      refine S.last 11 rfl rfl (fun J2 => ?_)
      refine S.iinc (l3 + 1) [(3, .int (l3 + 1)), (0, .ref 6), (1, .long l1), (4, .int l4)] 12 2 rfl rfl rfl (by decide) rfl ?_
      refine S.goto 6 13 rfl (by decide) ?_
      refine S.sub (lv' := [(0, .ref 6), (1, .long l1), (3, .int (l3 + 1)), (4, .int l4)]) [1, 2, 0, 3] rfl ?_
      exact ih _ _
def F_J7_fill_d0a16_6 (l1 : Int64) (I : HI) (J : HJ) : Option (Unit × HI × HJ) :=
  F_J7_fill_d0a16_6_L6 l1 (10 : Int32) I bgf (0 : Int32) J
set_option maxRecDepth 100000 in
theorem cm_J7_fill_d0a16_6 (b : Bool) (l1 : Int64) (I : HI) (J : HJ) : CM mJ7_fill_d0a16 1 0 0 [.ref 6, .long l1] (zs b, I, J) (fV (zs b)) (F_J7_fill_d0a16_6 l1 I J) := by
  refine S.of okJ7_fill_d0a16 pn_J7 (Nat.le_of_ble_eq_true rfl) ?_
  refine S.sub (lv' := [(0, .ref 6), (1, .long l1)]) [0, 1] rfl ?_
  unfold F_J7_fill_d0a16_6
  refine S.iconst (0 : Int32) 0 rfl (by decide) ?_
  refine S.istore_n [(3, .int (0 : Int32)), (0, .ref 6), (1, .long l1)] 1 rfl (by decide) rfl ?_
  refine S.aload_n 2 1 rfl rfl ?_
  refine S.alen (10 : Int32) 3 rfl rfl (by decide) (by decide) (by decide) ?_
  refine S.istore [(4, .int (10 : Int32)), (3, .int (0 : Int32)), (0, .ref 6), (1, .long l1)] 4 rfl (by decide) rfl ?_
  refine S.sub (lv' := [(0, .ref 6), (1, .long l1), (3, .int (0 : Int32)), (4, .int (10 : Int32))]) [2, 3, 1, 0] rfl ?_
  refine s_J7_fill_d0a16_6_L6 b _ _ _ bgf _ _
def F_J7_fill_d0a16_7_L6 (l1 : Int64) (l4 : Int32) (I : HI) : Nat → Int32 → HJ → Option (Unit × HI × HJ)
  | 0, _, _ => none
  | K+1, l3, J =>
    if l4 ≤ l3 then
      some ((), I, J)
    else
      bx l3 10 <|
      lb (uj J x_board_into (Int32.toNatClampNeg l3) l1) fun J2 =>
      F_J7_fill_d0a16_7_L6 l1 l4 I K (l3 + 1) J2
set_option maxRecDepth 100000 in
theorem s_J7_fill_d0a16_7_L6 (b : Bool) (l1 : Int64) (l4 : Int32) (I : HI) : ∀ (K : Nat) (l3 : Int32) (J : HJ), S (fV (zs b)) mJ7_fill_d0a16 (rmd 1 0 0) 0 0 (0, 0) 6 [(0, .ref 7), (1, .long l1), (3, .int l3), (4, .int l4)] [] (zs b, I, J) (F_J7_fill_d0a16_7_L6 l1 l4 I K l3 J) := by
  intro K
  induction K with
  | zero => intro l3 J; exact S.none
  | succ K ih =>
    intro l3 J
    rw [F_J7_fill_d0a16_7_L6]
    refine S.iload_n 5 2 rfl rfl ?_
    refine S.iload 6 3 rfl rfl ?_
    refine S.icmp_ge 22 7 rfl (by decide) (fun _ => ?_) (fun _ => ?_)
    · exact S.vret 14 rfl rfl (Nat.le_refl _) (Nat.le_refl _) rfl
    · refine S.aload_n 8 0 rfl rfl ?_
      refine S.iload_n 9 2 rfl rfl ?_
      refine S.lload_n 10 1 rfl rfl ?_
      refine S.last 11 rfl rfl (fun J2 => ?_)
      refine S.iinc (l3 + 1) [(3, .int (l3 + 1)), (0, .ref 7), (1, .long l1), (4, .int l4)] 12 2 rfl rfl rfl (by decide) rfl ?_
      refine S.goto 6 13 rfl (by decide) ?_
      refine S.sub (lv' := [(0, .ref 7), (1, .long l1), (3, .int (l3 + 1)), (4, .int l4)]) [1, 2, 0, 3] rfl ?_
      exact ih _ _
def F_J7_fill_d0a16_7 (l1 : Int64) (I : HI) (J : HJ) : Option (Unit × HI × HJ) :=
  F_J7_fill_d0a16_7_L6 l1 (10 : Int32) I bgf (0 : Int32) J
set_option maxRecDepth 100000 in
theorem cm_J7_fill_d0a16_7 (b : Bool) (l1 : Int64) (I : HI) (J : HJ) : CM mJ7_fill_d0a16 1 0 0 [.ref 7, .long l1] (zs b, I, J) (fV (zs b)) (F_J7_fill_d0a16_7 l1 I J) := by
  refine S.of okJ7_fill_d0a16 pn_J7 (Nat.le_of_ble_eq_true rfl) ?_
  refine S.sub (lv' := [(0, .ref 7), (1, .long l1)]) [0, 1] rfl ?_
  unfold F_J7_fill_d0a16_7
  refine S.iconst (0 : Int32) 0 rfl (by decide) ?_
  refine S.istore_n [(3, .int (0 : Int32)), (0, .ref 7), (1, .long l1)] 1 rfl (by decide) rfl ?_
  refine S.aload_n 2 1 rfl rfl ?_
  refine S.alen (10 : Int32) 3 rfl rfl (by decide) (by decide) (by decide) ?_
  refine S.istore [(4, .int (10 : Int32)), (3, .int (0 : Int32)), (0, .ref 7), (1, .long l1)] 4 rfl (by decide) rfl ?_
  refine S.sub (lv' := [(0, .ref 7), (1, .long l1), (3, .int (0 : Int32)), (4, .int (10 : Int32))]) [2, 3, 1, 0] rfl ?_
  refine s_J7_fill_d0a16_7_L6 b _ _ _ bgf _ _
def F_X0_rewire_L18 (I : HI) : Nat → Int32 → HJ → Option (Unit × HI × HJ)
  | 0, _, _ => none
  | K+1, l1, J =>
    if (I x_board f_Board_lamps) ≤ l1 then
      some ((), I, J)
    else
      bx l1 64 <|
      bx (I x_board_from (Int32.toNatClampNeg l1)) 10 <|
      bx (I x_board_from (Int32.toNatClampNeg l1)) 10 <|
      lb (uj J x_board_out (Int32.toNatClampNeg (I x_board_from (Int32.toNatClampNeg l1))) ((J x_board_out (Int32.toNatClampNeg (I x_board_from (Int32.toNatClampNeg l1)))) ||| (olshl (1 : Int64) l1))) fun J7 =>
      bx l1 64 <|
      bx (I x_board_goal (Int32.toNatClampNeg l1)) 10 <|
      bx (I x_board_goal (Int32.toNatClampNeg l1)) 10 <|
      lb (uj J7 x_board_into (Int32.toNatClampNeg (I x_board_goal (Int32.toNatClampNeg l1))) ((J7 x_board_into (Int32.toNatClampNeg (I x_board_goal (Int32.toNatClampNeg l1)))) ||| (olshl (1 : Int64) l1))) fun J8 =>
      F_X0_rewire_L18 I K (l1 + 1) J8
set_option maxRecDepth 100000 in
theorem s_X0_rewire_L18 (b : Bool) (I : HI) : ∀ (K : Nat) (l1 : Int32) (J : HJ), S (fV (zs b)) mX0_rewire (rmd 2 0 0) 0 0 (0, 0) 18 [(0, .ref 1), (1, .int l1)] [] (zs b, I, J) (F_X0_rewire_L18 I K l1 J) := by
  intro K
  induction K with
  | zero => intro l1 J; exact S.none
  | succ K ih =>
    intro l1 J
    rw [F_X0_rewire_L18]
    refine S.iload_n 10 1 rfl rfl ?_
    refine S.aload_n 11 0 rfl rfl ?_
    refine S.getI 12 rfl fo_X0_15 rfl rfl ?_
    refine S.icmp_ge 66 13 rfl (by decide) (fun _ => ?_) (fun _ => ?_)
    · exact S.vret 42 rfl rfl (Nat.le_refl _) (Nat.le_refl _) rfl
    · refine S.aload_n 14 0 rfl rfl ?_
      refine S.getR 15 rfl fo_X0_40 rfl rfl rfl ?_
      refine S.aload_n 16 0 rfl rfl ?_
      refine S.getR 17 rfl fo_X0_31 rfl rfl rfl ?_
      refine S.iload_n 18 1 rfl rfl ?_
      refine S.iald 19 rfl rfl ?_
      refine S.dup2_11 20 rfl rfl rfl ?_
      refine S.lald 21 rfl rfl ?_
      refine S.lconst (1 : Int64) 22 rfl (by decide) ?_
      refine S.iload_n 23 1 rfl rfl ?_
      refine S.lshl 24 rfl ?_
      refine S.lor 25 rfl ?_
      refine S.last 26 rfl rfl (fun J7 => ?_)
      refine S.aload_n 27 0 rfl rfl ?_
      refine S.getR 28 rfl fo_X0_44 rfl rfl rfl ?_
      refine S.aload_n 29 0 rfl rfl ?_
      refine S.getR 30 rfl fo_X0_34 rfl rfl rfl ?_
      refine S.iload_n 31 1 rfl rfl ?_
      refine S.iald 32 rfl rfl ?_
      refine S.dup2_11 33 rfl rfl rfl ?_
      refine S.lald 34 rfl rfl ?_
      refine S.lconst (1 : Int64) 35 rfl (by decide) ?_
      refine S.iload_n 36 1 rfl rfl ?_
      refine S.lshl 37 rfl ?_
      refine S.lor 38 rfl ?_
      refine S.last 39 rfl rfl (fun J8 => ?_)
      refine S.iinc (l1 + 1) [(1, .int (l1 + 1)), (0, .ref 1)] 40 1 rfl rfl rfl (by decide) rfl ?_
      refine S.goto 18 41 rfl (by decide) ?_
      refine S.sub (lv' := [(0, .ref 1), (1, .int (l1 + 1))]) [1, 0] rfl ?_
      exact ih _ _
def F_X0_rewire  (I : HI) (J : HJ) : Option (Unit × HI × HJ) :=
  cl (F_J7_fill_d0a16_6 (0 : Int64) I J) fun _ I3 J4 =>
  cl (F_J7_fill_d0a16_7 (0 : Int64) I3 J4) fun _ I5 J6 =>
  F_X0_rewire_L18 I5 bgf (0 : Int32) J6
set_option maxRecDepth 100000 in
theorem cm_X0_rewire (b : Bool)  (I : HI) (J : HJ) : CM mX0_rewire 2 0 0 [.ref 1] (zs b, I, J) (fV (zs b)) (F_X0_rewire  I J) := by
  refine S.of okX0_rewire pn_X0 (Nat.le_of_ble_eq_true rfl) ?_
  refine S.sub (lv' := [(0, .ref 1)]) [0] rfl ?_
  unfold F_X0_rewire
  refine S.aload_n 0 0 rfl rfl ?_
  refine S.getR 1 rfl fo_X0_40 rfl rfl rfl ?_
  refine S.lconst (0 : Int64) 2 rfl (by decide) ?_
  refine S.cSV (d := 1) (av := [.ref 6, .long (0 : Int64)]) (rs := [.long (0 : Int64), .ref 6]) 3 rfl co_X0_57 rfl rfl ⟨⟨Nat.le_of_ble_eq_true rfl, Nat.le_of_ble_eq_true rfl⟩, ⟨Nat.le_of_ble_eq_true rfl, Nat.le_of_ble_eq_true rfl⟩, Nat.le_of_ble_eq_true rfl⟩ (cm_J7_fill_d0a16_6 b (0 : Int64) I J) (fun _ I3 J4 => ?_)
  refine S.aload_n 4 0 rfl rfl ?_
  refine S.getR 5 rfl fo_X0_44 rfl rfl rfl ?_
  refine S.lconst (0 : Int64) 6 rfl (by decide) ?_
  refine S.cSV (d := 1) (av := [.ref 7, .long (0 : Int64)]) (rs := [.long (0 : Int64), .ref 7]) 7 rfl co_X0_57 rfl rfl ⟨⟨Nat.le_of_ble_eq_true rfl, Nat.le_of_ble_eq_true rfl⟩, ⟨Nat.le_of_ble_eq_true rfl, Nat.le_of_ble_eq_true rfl⟩, Nat.le_of_ble_eq_true rfl⟩ (cm_J7_fill_d0a16_7 b (0 : Int64) I3 J4) (fun _ I5 J6 => ?_)
  refine S.iconst (0 : Int32) 8 rfl (by decide) ?_
  refine S.istore_n [(1, .int (0 : Int32)), (0, .ref 1)] 9 rfl (by decide) rfl ?_
  refine S.sub (lv' := [(0, .ref 1), (1, .int (0 : Int32))]) [1, 0] rfl ?_
  refine s_X0_rewire_L18 b _ bgf _ _
def F_X0_startAnew (l1 : Int32) (I : HI) (J : HJ) : Option (Unit × HI × HJ) :=
  lb (ui I x_board f_Board_wide l1) fun I3 =>
  lb (ui I3 x_board f_Board_lamps (0 : Int32)) fun I4 =>
  cl (F_X0_rewire I4 J) fun _ I5 J6 =>
  some ((), I5, J6)
set_option maxRecDepth 100000 in
theorem cm_X0_startAnew (b : Bool) (l1 : Int32) (I : HI) (J : HJ) : CM mX0_startAnew 3 0 0 [.ref 1, .int l1] (zs b, I, J) (fV (zs b)) (F_X0_startAnew l1 I J) := by
  refine S.of okX0_startAnew pn_X0 (Nat.le_of_ble_eq_true rfl) ?_
  refine S.sub (lv' := [(0, .ref 1), (1, .int l1)]) [0, 1] rfl ?_
  unfold F_X0_startAnew
  refine S.aload_n 0 0 rfl rfl ?_
  refine S.iload_n 1 1 rfl rfl ?_
  refine S.putI 2 rfl fo_X0_9 rfl rfl rfl rfl (fun _ hq => by cases hq; exact Or.inl rfl) (fun I3 => ?_)
  refine S.aload_n 3 0 rfl rfl ?_
  refine S.iconst (0 : Int32) 4 rfl (by decide) ?_
  refine S.putI 5 rfl fo_X0_15 rfl rfl rfl rfl (fun _ hq => by cases hq; exact Or.inl rfl) (fun I4 => ?_)
  refine S.aload_n 6 0 rfl rfl ?_
  refine S.cVV (d := 2) (av := []) (rs := []) (b := 1) 7 rfl co_X0_51 rfl rfl rfl rfl rfl ⟨⟨Nat.le_of_ble_eq_true rfl, Nat.le_of_ble_eq_true rfl⟩, ⟨Nat.le_of_ble_eq_true rfl, Nat.le_of_ble_eq_true rfl⟩, Nat.le_of_ble_eq_true rfl⟩ (cm_X0_rewire b I4 J) (fun _ I5 J6 => ?_)
  exact S.vret 8 rfl rfl (Nat.le_refl _) (Nat.le_refl _) rfl
def F_J7_fill_d0a16_26_L6 (l1 : Int64) (l4 : Int32) (I : HI) : Nat → Int32 → HJ → Option (Unit × HI × HJ)
  | 0, _, _ => none
  | K+1, l3, J =>
    if l4 ≤ l3 then
      some ((), I, J)
    else
      bx l3 4 <|
      lb (uj J x_notes_pictures (Int32.toNatClampNeg l3) l1) fun J2 =>
      F_J7_fill_d0a16_26_L6 l1 l4 I K (l3 + 1) J2
set_option maxRecDepth 100000 in
theorem s_J7_fill_d0a16_26_L6 (b : Bool) (l1 : Int64) (l4 : Int32) (I : HI) : ∀ (K : Nat) (l3 : Int32) (J : HJ), S (fV (zs b)) mJ7_fill_d0a16 (rmd 1 0 0) 0 0 (0, 0) 6 [(0, .ref 26), (1, .long l1), (3, .int l3), (4, .int l4)] [] (zs b, I, J) (F_J7_fill_d0a16_26_L6 l1 l4 I K l3 J) := by
  intro K
  induction K with
  | zero => intro l3 J; exact S.none
  | succ K ih =>
    intro l3 J
    rw [F_J7_fill_d0a16_26_L6]
    refine S.iload_n 5 2 rfl rfl ?_
    refine S.iload 6 3 rfl rfl ?_
    refine S.icmp_ge 22 7 rfl (by decide) (fun _ => ?_) (fun _ => ?_)
    · exact S.vret 14 rfl rfl (Nat.le_refl _) (Nat.le_refl _) rfl
    · refine S.aload_n 8 0 rfl rfl ?_
      refine S.iload_n 9 2 rfl rfl ?_
      refine S.lload_n 10 1 rfl rfl ?_
      refine S.last 11 rfl rfl (fun J2 => ?_)
      refine S.iinc (l3 + 1) [(3, .int (l3 + 1)), (0, .ref 26), (1, .long l1), (4, .int l4)] 12 2 rfl rfl rfl (by decide) rfl ?_
      refine S.goto 6 13 rfl (by decide) ?_
      refine S.sub (lv' := [(0, .ref 26), (1, .long l1), (3, .int (l3 + 1)), (4, .int l4)]) [1, 2, 0, 3] rfl ?_
      exact ih _ _
def F_J7_fill_d0a16_26 (l1 : Int64) (I : HI) (J : HJ) : Option (Unit × HI × HJ) :=
  F_J7_fill_d0a16_26_L6 l1 (4 : Int32) I bgf (0 : Int32) J
set_option maxRecDepth 100000 in
theorem cm_J7_fill_d0a16_26 (b : Bool) (l1 : Int64) (I : HI) (J : HJ) : CM mJ7_fill_d0a16 1 0 0 [.ref 26, .long l1] (zs b, I, J) (fV (zs b)) (F_J7_fill_d0a16_26 l1 I J) := by
  refine S.of okJ7_fill_d0a16 pn_J7 (Nat.le_of_ble_eq_true rfl) ?_
  refine S.sub (lv' := [(0, .ref 26), (1, .long l1)]) [0, 1] rfl ?_
  unfold F_J7_fill_d0a16_26
  refine S.iconst (0 : Int32) 0 rfl (by decide) ?_
  refine S.istore_n [(3, .int (0 : Int32)), (0, .ref 26), (1, .long l1)] 1 rfl (by decide) rfl ?_
  refine S.aload_n 2 1 rfl rfl ?_
  refine S.alen (4 : Int32) 3 rfl rfl (by decide) (by decide) (by decide) ?_
  refine S.istore [(4, .int (4 : Int32)), (3, .int (0 : Int32)), (0, .ref 26), (1, .long l1)] 4 rfl (by decide) rfl ?_
  refine S.sub (lv' := [(0, .ref 26), (1, .long l1), (3, .int (0 : Int32)), (4, .int (4 : Int32))]) [2, 3, 1, 0] rfl ?_
  refine s_J7_fill_d0a16_26_L6 b _ _ _ bgf _ _
def F_X3_clear_25  (I : HI) (J : HJ) : Option (Unit × HI × HJ) :=
  lb (ui I x_notes f_Notes_high (0 : Int32)) fun I4 =>
  lb (ui I4 x_notes f_Notes_low (0 : Int32)) fun I5 =>
  lb (ui I5 x_notes f_Notes_seenSize (0 : Int32)) fun I6 =>
  cl (F_J7_fill_d0a16_26 (0 : Int64) I6 J) fun _ I7 J8 =>
  some ((), I7, J8)
set_option maxRecDepth 100000 in
theorem cm_X3_clear_25 (b : Bool)  (I : HI) (J : HJ) : CM mX3_clear 2 0 0 [.ref 25] (zs b, I, J) (fV (zs b)) (F_X3_clear_25  I J) := by
  refine S.of okX3_clear pn_X3 (Nat.le_of_ble_eq_true rfl) ?_
  refine S.sub (lv' := [(0, .ref 25)]) [0] rfl ?_
  unfold F_X3_clear_25
  refine S.aload_n 0 0 rfl rfl ?_
  refine S.iconst (0 : Int32) 1 rfl (by decide) ?_
  refine S.putI 2 rfl fo_X3_9 rfl rfl rfl rfl (fun _ hq => by cases hq; exact Or.inl rfl) (fun I4 => ?_)
  refine S.aload_n 3 0 rfl rfl ?_
  refine S.iconst (0 : Int32) 4 rfl (by decide) ?_
  refine S.putI 5 rfl fo_X3_15 rfl rfl rfl rfl (fun _ hq => by cases hq; exact Or.inl rfl) (fun I5 => ?_)
  refine S.aload_n 6 0 rfl rfl ?_
  refine S.iconst (0 : Int32) 7 rfl (by decide) ?_
  refine S.putI 8 rfl fo_X3_22 rfl rfl rfl rfl (fun _ hq => by cases hq; exact Or.inl rfl) (fun I6 => ?_)
  refine S.aload_n 9 0 rfl rfl ?_
  refine S.getR 10 rfl fo_X3_18 rfl rfl rfl ?_
  refine S.lconst (0 : Int64) 11 rfl (by decide) ?_
  refine S.cSV (d := 1) (av := [.ref 26, .long (0 : Int64)]) (rs := [.long (0 : Int64), .ref 26]) 12 rfl co_X3_35 rfl rfl ⟨⟨Nat.le_of_ble_eq_true rfl, Nat.le_of_ble_eq_true rfl⟩, ⟨Nat.le_of_ble_eq_true rfl, Nat.le_of_ble_eq_true rfl⟩, Nat.le_of_ble_eq_true rfl⟩ (cm_J7_fill_d0a16_26 b (0 : Int64) I6 J) (fun _ I7 J8 => ?_)
  exact S.vret 13 rfl rfl (Nat.le_refl _) (Nat.le_refl _) rfl
def F_X0_hasWire (l1 : Int32) (I : HI) (J : HJ) : Option Int32 :=
  if l1 < 0 then
    some (0 : Int32)
  else
    if (I x_board f_Board_wide) ≤ l1 then
      some (0 : Int32)
    else
      some (1 : Int32)
set_option maxRecDepth 100000 in
theorem cm_X0_hasWire (b : Bool) (l1 : Int32) (I : HI) (J : HJ) : CM mX0_hasWire 1 0 0 [.ref 1, .int l1] (zs b, I, J) (pI (zs b, I, J)) (F_X0_hasWire l1 I J) := by
  refine S.of okX0_hasWire pn_X0 (Nat.le_of_ble_eq_true rfl) ?_
  refine S.sub (lv' := [(0, .ref 1), (1, .int l1)]) [0, 1] rfl ?_
  unfold F_X0_hasWire
  refine S.iload_n 0 1 rfl rfl ?_
  refine S.if_lt 16 1 rfl (by decide) (fun _ => ?_) (fun _ => ?_)
  · refine S.iconst (0 : Int32) 8 rfl (by decide) ?_
    exact S.iret 9 rfl rfl rfl (Nat.le_refl _) (Nat.le_refl _) rfl
  · refine S.iload_n 2 1 rfl rfl ?_
    refine S.aload_n 3 0 rfl rfl ?_
    refine S.getI 4 rfl fo_X0_9 rfl rfl ?_
    refine S.icmp_ge 16 5 rfl (by decide) (fun _ => ?_) (fun _ => ?_)
    · refine S.iconst (0 : Int32) 8 rfl (by decide) ?_
      exact S.iret 9 rfl rfl rfl (Nat.le_refl _) (Nat.le_refl _) rfl
    · refine S.iconst (1 : Int32) 6 rfl (by decide) ?_
      refine S.goto 17 7 rfl (by decide) ?_
      exact S.iret 9 rfl rfl rfl (Nat.le_refl _) (Nat.le_refl _) rfl
def F_X0_resist (l1 : Int32) (l2 : Int32) (I : HI) (J : HJ) : Option (Unit × HI × HJ) :=
  cp (F_X0_hasWire l1 I J) fun r2 =>
  if r2 = 0 then
    some ((), I, J)
  else
    bx l1 10 <|
    lb (ui I x_board_ohms (Int32.toNatClampNeg l1) l2) fun I3 =>
    some ((), I3, J)
set_option maxRecDepth 100000 in
theorem cm_X0_resist (b : Bool) (l1 : Int32) (l2 : Int32) (I : HI) (J : HJ) : CM mX0_resist 2 0 0 [.ref 1, .int l1, .int l2] (zs b, I, J) (fV (zs b)) (F_X0_resist l1 l2 I J) := by
  refine S.of okX0_resist pn_X0 (Nat.le_of_ble_eq_true rfl) ?_
  refine S.sub (lv' := [(0, .ref 1), (1, .int l1), (2, .int l2)]) [0, 1, 2] rfl ?_
  unfold F_X0_resist
  refine S.aload_n 0 0 rfl rfl ?_
  refine S.iload_n 1 1 rfl rfl ?_
  refine S.qVI (d := 1) (av := [.int l1]) (rs := [.int l1]) (b := 1) 2 rfl co_X0_54 rfl rfl rfl rfl rfl ⟨⟨Nat.le_of_ble_eq_true rfl, Nat.le_of_ble_eq_true rfl⟩, ⟨Nat.le_of_ble_eq_true rfl, Nat.le_of_ble_eq_true rfl⟩, Nat.le_of_ble_eq_true rfl⟩ (cm_X0_hasWire b l1 I J) (fun r2 => ?_)
  refine S.if_eq 15 3 rfl (by decide) (fun _ => ?_) (fun _ => ?_)
  · exact S.vret 9 rfl rfl (Nat.le_refl _) (Nat.le_refl _) rfl
  · refine S.aload_n 4 0 rfl rfl ?_
    refine S.getR 5 rfl fo_X0_27 rfl rfl rfl ?_
    refine S.iload_n 6 1 rfl rfl ?_
    refine S.iload_n 7 2 rfl rfl ?_
    refine S.iast 8 rfl rfl (fun I3 => ?_)
    exact S.vret 9 rfl rfl (Nat.le_refl _) (Nat.le_refl _) rfl
def F_X0_add (l1 : Int32) (l2 : Int32) (l3 : Int32) (I : HI) (J : HJ) : Option (Unit × HI × HJ) :=
  if (60 : Int32) ≤ (I x_board f_Board_lamps) then
    some ((), I, J)
  else
    cp (F_X0_hasWire l1 I J) fun r7 =>
    if r7 = 0 then
      some ((), I, J)
    else
      cp (F_X0_hasWire l2 I J) fun r8 =>
      if r8 = 0 then
        some ((), I, J)
      else
        bx (I x_board f_Board_lamps) 64 <|
        lb (ui I x_board_from (Int32.toNatClampNeg (I x_board f_Board_lamps)) l1) fun I9 =>
        bx (I9 x_board f_Board_lamps) 64 <|
        lb (ui I9 x_board_goal (Int32.toNatClampNeg (I9 x_board f_Board_lamps)) l2) fun I10 =>
        bx (I10 x_board f_Board_lamps) 64 <|
        lb (ui I10 x_board_volts (Int32.toNatClampNeg (I10 x_board f_Board_lamps)) l3) fun I11 =>
        bx l1 10 <|
        bx l1 10 <|
        lb (uj J x_board_out (Int32.toNatClampNeg l1) ((J x_board_out (Int32.toNatClampNeg l1)) ||| (olshl (1 : Int64) (I11 x_board f_Board_lamps)))) fun J12 =>
        bx l2 10 <|
        bx l2 10 <|
        lb (uj J12 x_board_into (Int32.toNatClampNeg l2) ((J12 x_board_into (Int32.toNatClampNeg l2)) ||| (olshl (1 : Int64) (I11 x_board f_Board_lamps)))) fun J13 =>
        lb (ui I11 x_board f_Board_lamps ((I11 x_board f_Board_lamps) + (1 : Int32))) fun I14 =>
        some ((), I14, J13)
set_option maxRecDepth 100000 in
theorem cm_X0_add (b : Bool) (l1 : Int32) (l2 : Int32) (l3 : Int32) (I : HI) (J : HJ) : CM mX0_add 2 0 0 [.ref 1, .int l1, .int l2, .int l3] (zs b, I, J) (fV (zs b)) (F_X0_add l1 l2 l3 I J) := by
  refine S.of okX0_add pn_X0 (Nat.le_of_ble_eq_true rfl) ?_
  refine S.sub (lv' := [(0, .ref 1), (1, .int l1), (2, .int l2), (3, .int l3)]) [0, 1, 2, 3] rfl ?_
  unfold F_X0_add
  refine S.aload_n 0 0 rfl rfl ?_
  refine S.getI 1 rfl fo_X0_15 rfl rfl ?_
  refine S.bipush (60 : Int32) 2 rfl (by decide) ?_
  refine S.icmp_ge 95 3 rfl (by decide) (fun _ => ?_) (fun _ => ?_)
  · exact S.vret 58 rfl rfl (Nat.le_refl _) (Nat.le_refl _) rfl
  · refine S.aload_n 4 0 rfl rfl ?_
    refine S.iload_n 5 1 rfl rfl ?_
    refine S.qVI (d := 1) (av := [.int l1]) (rs := [.int l1]) (b := 1) 6 rfl co_X0_54 rfl rfl rfl rfl rfl ⟨⟨Nat.le_of_ble_eq_true rfl, Nat.le_of_ble_eq_true rfl⟩, ⟨Nat.le_of_ble_eq_true rfl, Nat.le_of_ble_eq_true rfl⟩, Nat.le_of_ble_eq_true rfl⟩ (cm_X0_hasWire b l1 I J) (fun r7 => ?_)
    refine S.if_eq 95 7 rfl (by decide) (fun _ => ?_) (fun _ => ?_)
    · exact S.vret 58 rfl rfl (Nat.le_refl _) (Nat.le_refl _) rfl
    · refine S.aload_n 8 0 rfl rfl ?_
      refine S.iload_n 9 2 rfl rfl ?_
      refine S.qVI (d := 1) (av := [.int l2]) (rs := [.int l2]) (b := 1) 10 rfl co_X0_54 rfl rfl rfl rfl rfl ⟨⟨Nat.le_of_ble_eq_true rfl, Nat.le_of_ble_eq_true rfl⟩, ⟨Nat.le_of_ble_eq_true rfl, Nat.le_of_ble_eq_true rfl⟩, Nat.le_of_ble_eq_true rfl⟩ (cm_X0_hasWire b l2 I J) (fun r8 => ?_)
      refine S.if_eq 95 11 rfl (by decide) (fun _ => ?_) (fun _ => ?_)
      · exact S.vret 58 rfl rfl (Nat.le_refl _) (Nat.le_refl _) rfl
      · refine S.aload_n 12 0 rfl rfl ?_
        refine S.getR 13 rfl fo_X0_31 rfl rfl rfl ?_
        refine S.aload_n 14 0 rfl rfl ?_
        refine S.getI 15 rfl fo_X0_15 rfl rfl ?_
        refine S.iload_n 16 1 rfl rfl ?_
        refine S.iast 17 rfl rfl (fun I9 => ?_)
        refine S.aload_n 18 0 rfl rfl ?_
        refine S.getR 19 rfl fo_X0_34 rfl rfl rfl ?_
        refine S.aload_n 20 0 rfl rfl ?_
        refine S.getI 21 rfl fo_X0_15 rfl rfl ?_
        refine S.iload_n 22 2 rfl rfl ?_
        refine S.iast 23 rfl rfl (fun I10 => ?_)
        refine S.aload_n 24 0 rfl rfl ?_
        refine S.getR 25 rfl fo_X0_37 rfl rfl rfl ?_
        refine S.aload_n 26 0 rfl rfl ?_
        refine S.getI 27 rfl fo_X0_15 rfl rfl ?_
        refine S.iload_n 28 3 rfl rfl ?_
        refine S.iast 29 rfl rfl (fun I11 => ?_)
        refine S.aload_n 30 0 rfl rfl ?_
        refine S.getR 31 rfl fo_X0_40 rfl rfl rfl ?_
        refine S.iload_n 32 1 rfl rfl ?_
        refine S.dup2_11 33 rfl rfl rfl ?_
        refine S.lald 34 rfl rfl ?_
        refine S.lconst (1 : Int64) 35 rfl (by decide) ?_
        refine S.aload_n 36 0 rfl rfl ?_
        refine S.getI 37 rfl fo_X0_15 rfl rfl ?_
        refine S.lshl 38 rfl ?_
        refine S.lor 39 rfl ?_
        refine S.last 40 rfl rfl (fun J12 => ?_)
        refine S.aload_n 41 0 rfl rfl ?_
        refine S.getR 42 rfl fo_X0_44 rfl rfl rfl ?_
        refine S.iload_n 43 2 rfl rfl ?_
        refine S.dup2_11 44 rfl rfl rfl ?_
        refine S.lald 45 rfl rfl ?_
        refine S.lconst (1 : Int64) 46 rfl (by decide) ?_
        refine S.aload_n 47 0 rfl rfl ?_
        refine S.getI 48 rfl fo_X0_15 rfl rfl ?_
        refine S.lshl 49 rfl ?_
        refine S.lor 50 rfl ?_
        refine S.last 51 rfl rfl (fun J13 => ?_)
        refine S.aload_n 52 0 rfl rfl ?_
        refine S.dup 53 rfl rfl ?_
        refine S.getI 54 rfl fo_X0_15 rfl rfl ?_
        refine S.iconst (1 : Int32) 55 rfl (by decide) ?_
        refine S.iadd 56 rfl ?_
        refine S.putI 57 rfl fo_X0_15 rfl rfl rfl rfl (fun _ hq => by cases hq; exact Or.inl rfl) (fun I14 => ?_)
        exact S.vret 58 rfl rfl (Nat.le_refl _) (Nat.le_refl _) rfl
def F_X0_hasLamp (l1 : Int32) (I : HI) (J : HJ) : Option Int32 :=
  if l1 < 0 then
    some (0 : Int32)
  else
    if (I x_board f_Board_lamps) ≤ l1 then
      some (0 : Int32)
    else
      some (1 : Int32)
set_option maxRecDepth 100000 in
theorem cm_X0_hasLamp (b : Bool) (l1 : Int32) (I : HI) (J : HJ) : CM mX0_hasLamp 1 0 0 [.ref 1, .int l1] (zs b, I, J) (pI (zs b, I, J)) (F_X0_hasLamp l1 I J) := by
  refine S.of okX0_hasLamp pn_X0 (Nat.le_of_ble_eq_true rfl) ?_
  refine S.sub (lv' := [(0, .ref 1), (1, .int l1)]) [0, 1] rfl ?_
  unfold F_X0_hasLamp
  refine S.iload_n 0 1 rfl rfl ?_
  refine S.if_lt 16 1 rfl (by decide) (fun _ => ?_) (fun _ => ?_)
  · refine S.iconst (0 : Int32) 8 rfl (by decide) ?_
    exact S.iret 9 rfl rfl rfl (Nat.le_refl _) (Nat.le_refl _) rfl
  · refine S.iload_n 2 1 rfl rfl ?_
    refine S.aload_n 3 0 rfl rfl ?_
    refine S.getI 4 rfl fo_X0_15 rfl rfl ?_
    refine S.icmp_ge 16 5 rfl (by decide) (fun _ => ?_) (fun _ => ?_)
    · refine S.iconst (0 : Int32) 8 rfl (by decide) ?_
      exact S.iret 9 rfl rfl rfl (Nat.le_refl _) (Nat.le_refl _) rfl
    · refine S.iconst (1 : Int32) 6 rfl (by decide) ?_
      refine S.goto 17 7 rfl (by decide) ?_
      exact S.iret 9 rfl rfl rfl (Nat.le_refl _) (Nat.le_refl _) rfl
def F_X0_hasPair (l1 : Int32) (l2 : Int32) (I : HI) (J : HJ) : Option Int32 :=
  cp (F_X0_hasLamp l1 I J) fun r1 =>
  if r1 = 0 then
    some (0 : Int32)
  else
    cp (F_X0_hasLamp l2 I J) fun r2 =>
    if r2 = 0 then
      some (0 : Int32)
    else
      if l1 = l2 then
        some (0 : Int32)
      else
        some (1 : Int32)
set_option maxRecDepth 100000 in
theorem cm_X0_hasPair (b : Bool) (l1 : Int32) (l2 : Int32) (I : HI) (J : HJ) : CM mX0_hasPair 2 0 0 [.ref 1, .int l1, .int l2] (zs b, I, J) (pI (zs b, I, J)) (F_X0_hasPair l1 l2 I J) := by
  refine S.of okX0_hasPair pn_X0 (Nat.le_of_ble_eq_true rfl) ?_
  refine S.sub (lv' := [(0, .ref 1), (1, .int l1), (2, .int l2)]) [0, 1, 2] rfl ?_
  unfold F_X0_hasPair
  refine S.aload_n 0 0 rfl rfl ?_
  refine S.iload_n 1 1 rfl rfl ?_
  refine S.qVI (d := 1) (av := [.int l1]) (rs := [.int l1]) (b := 1) 2 rfl co_X0_47 rfl rfl rfl rfl rfl ⟨⟨Nat.le_of_ble_eq_true rfl, Nat.le_of_ble_eq_true rfl⟩, ⟨Nat.le_of_ble_eq_true rfl, Nat.le_of_ble_eq_true rfl⟩, Nat.le_of_ble_eq_true rfl⟩ (cm_X0_hasLamp b l1 I J) (fun r1 => ?_)
  refine S.if_eq 25 3 rfl (by decide) (fun _ => ?_) (fun _ => ?_)
  · refine S.iconst (0 : Int32) 13 rfl (by decide) ?_
    exact S.iret 14 rfl rfl rfl (Nat.le_refl _) (Nat.le_refl _) rfl
  · refine S.aload_n 4 0 rfl rfl ?_
    refine S.iload_n 5 2 rfl rfl ?_
    refine S.qVI (d := 1) (av := [.int l2]) (rs := [.int l2]) (b := 1) 6 rfl co_X0_47 rfl rfl rfl rfl rfl ⟨⟨Nat.le_of_ble_eq_true rfl, Nat.le_of_ble_eq_true rfl⟩, ⟨Nat.le_of_ble_eq_true rfl, Nat.le_of_ble_eq_true rfl⟩, Nat.le_of_ble_eq_true rfl⟩ (cm_X0_hasLamp b l2 I J) (fun r2 => ?_)
    refine S.if_eq 25 7 rfl (by decide) (fun _ => ?_) (fun _ => ?_)
    · refine S.iconst (0 : Int32) 13 rfl (by decide) ?_
      exact S.iret 14 rfl rfl rfl (Nat.le_refl _) (Nat.le_refl _) rfl
    · refine S.iload_n 8 1 rfl rfl ?_
      refine S.iload_n 9 2 rfl rfl ?_
      refine S.icmp_eq 25 10 rfl (by decide) (fun _ => ?_) (fun _ => ?_)
      · refine S.iconst (0 : Int32) 13 rfl (by decide) ?_
        exact S.iret 14 rfl rfl rfl (Nat.le_refl _) (Nat.le_refl _) rfl
      · refine S.iconst (1 : Int32) 11 rfl (by decide) ?_
        refine S.goto 26 12 rfl (by decide) ?_
        exact S.iret 14 rfl rfl rfl (Nat.le_refl _) (Nat.le_refl _) rfl
def F_X0_trade (l1 : Int32) (l2 : Int32) (I : HI) (J : HJ) : Option (Unit × HI × HJ) :=
  bx l1 64 <|
  lb ((I x_board_from (Int32.toNatClampNeg l1))) fun x7 =>
  bx l2 64 <|
  bx l1 64 <|
  lb (ui I x_board_from (Int32.toNatClampNeg l1) (I x_board_from (Int32.toNatClampNeg l2))) fun I8 =>
  bx l2 64 <|
  lb (ui I8 x_board_from (Int32.toNatClampNeg l2) x7) fun I9 =>
  bx l1 64 <|
  lb ((I9 x_board_goal (Int32.toNatClampNeg l1))) fun x10 =>
  bx l2 64 <|
  bx l1 64 <|
  lb (ui I9 x_board_goal (Int32.toNatClampNeg l1) (I9 x_board_goal (Int32.toNatClampNeg l2))) fun I11 =>
  bx l2 64 <|
  lb (ui I11 x_board_goal (Int32.toNatClampNeg l2) x10) fun I12 =>
  cl (F_X0_rewire I12 J) fun _ I13 J14 =>
  some ((), I13, J14)
set_option maxRecDepth 100000 in
theorem cm_X0_trade (b : Bool) (l1 : Int32) (l2 : Int32) (I : HI) (J : HJ) : CM mX0_trade 3 0 0 [.ref 1, .int l1, .int l2] (zs b, I, J) (fV (zs b)) (F_X0_trade l1 l2 I J) := by
  refine S.of okX0_trade pn_X0 (Nat.le_of_ble_eq_true rfl) ?_
  refine S.sub (lv' := [(0, .ref 1), (1, .int l1), (2, .int l2)]) [0, 1, 2] rfl ?_
  unfold F_X0_trade
  refine S.aload_n 0 0 rfl rfl ?_
  refine S.getR 1 rfl fo_X0_31 rfl rfl rfl ?_
  refine S.iload_n 2 1 rfl rfl ?_
  refine S.iald 3 rfl rfl ?_
  refine S.nmi (fun x7 => ?_)
  refine S.istore_n [(3, .int x7), (0, .ref 1), (1, .int l1), (2, .int l2)] 4 rfl (by decide) rfl ?_
  refine S.aload_n 5 1 rfl rfl ?_
  refine S.getR 6 rfl fo_X0_31 rfl rfl rfl ?_
  refine S.iload_n 7 2 rfl rfl ?_
  refine S.aload_n 8 1 rfl rfl ?_
  refine S.getR 9 rfl fo_X0_31 rfl rfl rfl ?_
  refine S.iload_n 10 3 rfl rfl ?_
  refine S.iald 11 rfl rfl ?_
  refine S.iast 12 rfl rfl (fun I8 => ?_)
  refine S.aload_n 13 1 rfl rfl ?_
  refine S.getR 14 rfl fo_X0_31 rfl rfl rfl ?_
  refine S.iload_n 15 3 rfl rfl ?_
  refine S.iload_n 16 0 rfl rfl ?_
  refine S.iast 17 rfl rfl (fun I9 => ?_)
  refine S.aload_n 18 1 rfl rfl ?_
  refine S.getR 19 rfl fo_X0_34 rfl rfl rfl ?_
  refine S.iload_n 20 2 rfl rfl ?_
  refine S.iald 21 rfl rfl ?_
  refine S.nmi (fun x10 => ?_)
  refine S.istore [(4, .int x10), (3, .int x7), (0, .ref 1), (1, .int l1), (2, .int l2)] 22 rfl (by decide) rfl ?_
  refine S.aload_n 23 2 rfl rfl ?_
  refine S.getR 24 rfl fo_X0_34 rfl rfl rfl ?_
  refine S.iload_n 25 3 rfl rfl ?_
  refine S.aload_n 26 2 rfl rfl ?_
  refine S.getR 27 rfl fo_X0_34 rfl rfl rfl ?_
  refine S.iload_n 28 4 rfl rfl ?_
  refine S.iald 29 rfl rfl ?_
  refine S.iast 30 rfl rfl (fun I11 => ?_)
  refine S.aload_n 31 2 rfl rfl ?_
  refine S.getR 32 rfl fo_X0_34 rfl rfl rfl ?_
  refine S.iload_n 33 4 rfl rfl ?_
  refine S.iload 34 0 rfl rfl ?_
  refine S.iast 35 rfl rfl (fun I12 => ?_)
  refine S.aload_n 36 2 rfl rfl ?_
  refine S.cVV (d := 2) (av := []) (rs := []) (b := 1) 37 rfl co_X0_51 rfl rfl rfl rfl rfl ⟨⟨Nat.le_of_ble_eq_true rfl, Nat.le_of_ble_eq_true rfl⟩, ⟨Nat.le_of_ble_eq_true rfl, Nat.le_of_ble_eq_true rfl⟩, Nat.le_of_ble_eq_true rfl⟩ (cm_X0_rewire b I12 J) (fun _ I13 J14 => ?_)
  exact S.vret 38 rfl rfl (Nat.le_refl _) (Nat.le_refl _) rfl
def F_X0_hasSetting (l1 : Int32) (l2 : Int32) (I : HI) (J : HJ) : Option Int32 :=
  if (l1 &&& l2) = 0 then
    if (oushr (l1 ||| l2) (I x_board f_Board_wide)) = 0 then
      some (1 : Int32)
    else
      some (0 : Int32)
  else
    some (0 : Int32)
set_option maxRecDepth 100000 in
theorem cm_X0_hasSetting (b : Bool) (l1 : Int32) (l2 : Int32) (I : HI) (J : HJ) : CM mX0_hasSetting 1 0 0 [.ref 1, .int l1, .int l2] (zs b, I, J) (pI (zs b, I, J)) (F_X0_hasSetting l1 l2 I J) := by
  refine S.of okX0_hasSetting pn_X0 (Nat.le_of_ble_eq_true rfl) ?_
  refine S.sub (lv' := [(0, .ref 1), (1, .int l1), (2, .int l2)]) [0, 1, 2] rfl ?_
  unfold F_X0_hasSetting
  refine S.iload_n 0 1 rfl rfl ?_
  refine S.iload_n 1 2 rfl rfl ?_
  refine S.iand 2 rfl ?_
  refine S.if_ne 21 3 rfl (by decide) (fun _ => ?_) (fun _ => ?_)
  · refine S.iconst (0 : Int32) 13 rfl (by decide) ?_
    exact S.iret 14 rfl rfl rfl (Nat.le_refl _) (Nat.le_refl _) rfl
  · refine S.iload_n 4 1 rfl rfl ?_
    refine S.iload_n 5 2 rfl rfl ?_
    refine S.ior 6 rfl ?_
    refine S.aload_n 7 0 rfl rfl ?_
    refine S.getI 8 rfl fo_X0_9 rfl rfl ?_
    refine S.iushr 9 rfl ?_
    refine S.if_ne 21 10 rfl (by decide) (fun _ => ?_) (fun _ => ?_)
    · refine S.iconst (0 : Int32) 13 rfl (by decide) ?_
      exact S.iret 14 rfl rfl rfl (Nat.le_refl _) (Nat.le_refl _) rfl
    · refine S.iconst (1 : Int32) 11 rfl (by decide) ?_
      refine S.goto 22 12 rfl (by decide) ?_
      exact S.iret 14 rfl rfl rfl (Nat.le_refl _) (Nat.le_refl _) rfl
def F_J13_bitCount_95d88 (l0 : Int64) : Option Int32 :=
  lb ((l0 - ((olushr l0 (1 : Int32)) &&& (6148914691236517205 : Int64)))) fun x7 =>
  lb (((x7 &&& (3689348814741910323 : Int64)) + ((olushr x7 (2 : Int32)) &&& (3689348814741910323 : Int64)))) fun x8 =>
  lb (((x8 + (olushr x8 (4 : Int32))) &&& (1085102592571150095 : Int64))) fun x9 =>
  lb ((x9 + (olushr x9 (8 : Int32)))) fun x10 =>
  lb ((x10 + (olushr x10 (16 : Int32)))) fun x11 =>
  lb ((x11 + (olushr x11 (32 : Int32)))) fun x12 =>
  some ((Int64.toInt32 x12) &&& (127 : Int32))
set_option maxRecDepth 100000 in
theorem cm_J13_bitCount_95d88 (h : Hp) (l0 : Int64) : CM mJ13_bitCount_95d88 1 0 0 [.long l0] h (pI h) (F_J13_bitCount_95d88 l0) := by
  refine S.of okJ13_bitCount_95d88 pn_J13 (Nat.le_of_ble_eq_true rfl) ?_
  refine S.sub (lv' := [(0, .long l0)]) [0] rfl ?_
  unfold F_J13_bitCount_95d88
  refine S.lload_n 0 0 rfl rfl ?_
  refine S.lload_n 1 0 rfl rfl ?_
  refine S.iconst (1 : Int32) 2 rfl (by decide) ?_
  refine S.lushr 3 rfl ?_
  refine S.ldc2 (6148914691236517205 : Int64) 4 rfl ko_J13_314 ?_
  refine S.land 5 rfl ?_
  refine S.lsub 6 rfl ?_
  refine S.nml (fun x7 => ?_)
  refine S.lstore_n [(0, .long x7)] 7 rfl (by decide) rfl ?_
  refine S.lload_n 8 0 rfl rfl ?_
  refine S.ldc2 (3689348814741910323 : Int64) 9 rfl ko_J13_316 ?_
  refine S.land 10 rfl ?_
  refine S.lload_n 11 0 rfl rfl ?_
  refine S.iconst (2 : Int32) 12 rfl (by decide) ?_
  refine S.lushr 13 rfl ?_
  refine S.ldc2 (3689348814741910323 : Int64) 14 rfl ko_J13_316 ?_
  refine S.land 15 rfl ?_
  refine S.ladd 16 rfl ?_
  refine S.nml (fun x8 => ?_)
  refine S.lstore_n [(0, .long x8)] 17 rfl (by decide) rfl ?_
  refine S.lload_n 18 0 rfl rfl ?_
  refine S.lload_n 19 0 rfl rfl ?_
  refine S.iconst (4 : Int32) 20 rfl (by decide) ?_
  refine S.lushr 21 rfl ?_
  refine S.ladd 22 rfl ?_
  refine S.ldc2 (1085102592571150095 : Int64) 23 rfl ko_J13_318 ?_
  refine S.land 24 rfl ?_
  refine S.nml (fun x9 => ?_)
  refine S.lstore_n [(0, .long x9)] 25 rfl (by decide) rfl ?_
  refine S.lload_n 26 0 rfl rfl ?_
  refine S.lload_n 27 0 rfl rfl ?_
  refine S.bipush (8 : Int32) 28 rfl (by decide) ?_
  refine S.lushr 29 rfl ?_
  refine S.ladd 30 rfl ?_
  refine S.nml (fun x10 => ?_)
  refine S.lstore_n [(0, .long x10)] 31 rfl (by decide) rfl ?_
  refine S.lload_n 32 0 rfl rfl ?_
  refine S.lload_n 33 0 rfl rfl ?_
  refine S.bipush (16 : Int32) 34 rfl (by decide) ?_
  refine S.lushr 35 rfl ?_
  refine S.ladd 36 rfl ?_
  refine S.nml (fun x11 => ?_)
  refine S.lstore_n [(0, .long x11)] 37 rfl (by decide) rfl ?_
  refine S.lload_n 38 0 rfl rfl ?_
  refine S.lload_n 39 0 rfl rfl ?_
  refine S.bipush (32 : Int32) 40 rfl (by decide) ?_
  refine S.lushr 41 rfl ?_
  refine S.ladd 42 rfl ?_
  refine S.nml (fun x12 => ?_)
  refine S.lstore_n [(0, .long x12)] 43 rfl (by decide) rfl ?_
  refine S.lload_n 44 0 rfl rfl ?_
  refine S.l2i 45 rfl ?_
  refine S.bipush (127 : Int32) 46 rfl (by decide) ?_
  refine S.iand 47 rfl ?_
  exact S.iret 48 rfl rfl rfl (Nat.le_refl _) (Nat.le_refl _) rfl
def F_J6_numberOfTrailingZeros_0f7a4 (l0 : Int32) : Option Int32 :=
  lb (((l0 ^^^ (-1 : Int32)) &&& (l0 - (1 : Int32)))) fun x6 =>
  if 0 < x6 then
    lb (fun (y7 : Int32) (y8 : Int32) =>
    lb (fun (y10 : Int32) (y11 : Int32) =>
    lb (fun (y13 : Int32) (y14 : Int32) =>
    lb (fun (y16 : Int32) (y17 : Int32) =>
    some (y17 + (oushr y16 (1 : Int32)))) fun j18 =>
    if y13 ≤ (4 : Int32) then
      j18 y13 y14
    else
      lb ((oushr y13 (2 : Int32))) fun x19 =>
      j18 x19 (y14 + 2)) fun j15 =>
    if y10 ≤ (16 : Int32) then
      j15 y10 y11
    else
      lb ((oushr y10 (4 : Int32))) fun x20 =>
      j15 x20 (y11 + 4)) fun j12 =>
    if y7 ≤ (256 : Int32) then
      j12 y7 y8
    else
      lb ((oushr y7 (8 : Int32))) fun x21 =>
      j12 x21 (y8 + 8)) fun j9 =>
    if x6 ≤ (65536 : Int32) then
      j9 x6 (1 : Int32)
    else
      lb ((oushr x6 (16 : Int32))) fun x22 =>
      j9 x22 (17 : Int32)
  else
    some (x6 &&& (32 : Int32))
set_option maxRecDepth 100000 in
theorem cm_J6_numberOfTrailingZeros_0f7a4 (h : Hp) (l0 : Int32) : CM mJ6_numberOfTrailingZeros_0f7a4 1 0 0 [.int l0] h (pI h) (F_J6_numberOfTrailingZeros_0f7a4 l0) := by
  refine S.of okJ6_numberOfTrailingZeros_0f7a4 pn_J6 (Nat.le_of_ble_eq_true rfl) ?_
  refine S.sub (lv' := [(0, .int l0)]) [0] rfl ?_
  unfold F_J6_numberOfTrailingZeros_0f7a4
  refine S.iload_n 0 0 rfl rfl ?_
  refine S.iconst (-1 : Int32) 1 rfl (by decide) ?_
  refine S.ixor 2 rfl ?_
  refine S.iload_n 3 0 rfl rfl ?_
  refine S.iconst (1 : Int32) 4 rfl (by decide) ?_
  refine S.isub 5 rfl ?_
  refine S.iand 6 rfl ?_
  refine S.nmi (fun x6 => ?_)
  refine S.istore_n [(0, .int x6)] 7 rfl (by decide) rfl ?_
  refine S.iload_n 8 0 rfl rfl ?_
  refine S.if_gt 17 9 rfl (by decide) (fun _ => ?_) (fun _ => ?_)
  · refine S.iconst (1 : Int32) 14 rfl (by decide) ?_
    refine S.istore_n [(1, .int (1 : Int32)), (0, .int x6)] 15 rfl (by decide) rfl ?_
    refine S.iload_n 16 1 rfl rfl ?_
    refine S.ldcw (65536 : Int32) 17 rfl ko_J6_264 ?_
    refine S.jn (fun j => ∀ (y7 : Int32) (y8 : Int32), S (pI h) mJ6_numberOfTrailingZeros_0f7a4 (rmd 1 0 0) 0 0 (0, 0) 34 [(0, .int y7), (1, .int y8)] [] h (j y7 y8)) (fun y7 y8 => ?_) (fun j9 hj9 => ?_)
    · refine S.iload_n 24 0 rfl rfl ?_
      refine S.sipush (256 : Int32) 25 rfl (by decide) ?_
      refine S.jn (fun j => ∀ (y10 : Int32) (y11 : Int32), S (pI h) mJ6_numberOfTrailingZeros_0f7a4 (rmd 1 0 0) 0 0 (0, 0) 49 [(0, .int y10), (1, .int y11)] [] h (j y10 y11)) (fun y10 y11 => ?_) (fun j12 hj12 => ?_)
      · refine S.iload_n 32 0 rfl rfl ?_
        refine S.bipush (16 : Int32) 33 rfl (by decide) ?_
        refine S.jn (fun j => ∀ (y13 : Int32) (y14 : Int32), S (pI h) mJ6_numberOfTrailingZeros_0f7a4 (rmd 1 0 0) 0 0 (0, 0) 62 [(0, .int y13), (1, .int y14)] [] h (j y13 y14)) (fun y13 y14 => ?_) (fun j15 hj15 => ?_)
        · refine S.iload_n 40 0 rfl rfl ?_
          refine S.iconst (4 : Int32) 41 rfl (by decide) ?_
          refine S.jn (fun j => ∀ (y16 : Int32) (y17 : Int32), S (pI h) mJ6_numberOfTrailingZeros_0f7a4 (rmd 1 0 0) 0 0 (0, 0) 74 [(0, .int y16), (1, .int y17)] [] h (j y16 y17)) (fun y16 y17 => ?_) (fun j18 hj18 => ?_)
          · refine S.iload_n 48 1 rfl rfl ?_
            refine S.iload_n 49 0 rfl rfl ?_
            refine S.iconst (1 : Int32) 50 rfl (by decide) ?_
            refine S.iushr 51 rfl ?_
            refine S.iadd 52 rfl ?_
            exact S.iret 53 rfl rfl rfl (Nat.le_refl _) (Nat.le_refl _) rfl
          · refine S.icmp_le 74 42 rfl (by decide) (fun _ => ?_) (fun _ => ?_)
            · exact hj18 _ _
            · refine S.iinc (y14 + 2) [(1, .int (y14 + 2)), (0, .int y13)] 43 1 rfl rfl rfl (by decide) rfl ?_
              refine S.iload_n 44 1 rfl rfl ?_
              refine S.iconst (2 : Int32) 45 rfl (by decide) ?_
              refine S.iushr 46 rfl ?_
              refine S.nmi (fun x19 => ?_)
              refine S.istore_n [(0, .int x19), (1, .int (y14 + 2))] 47 rfl (by decide) rfl ?_
              exact hj18 _ _
        · refine S.icmp_le 62 34 rfl (by decide) (fun _ => ?_) (fun _ => ?_)
          · exact hj15 _ _
          · refine S.iinc (y11 + 4) [(1, .int (y11 + 4)), (0, .int y10)] 35 1 rfl rfl rfl (by decide) rfl ?_
            refine S.iload_n 36 1 rfl rfl ?_
            refine S.iconst (4 : Int32) 37 rfl (by decide) ?_
            refine S.iushr 38 rfl ?_
            refine S.nmi (fun x20 => ?_)
            refine S.istore_n [(0, .int x20), (1, .int (y11 + 4))] 39 rfl (by decide) rfl ?_
            exact hj15 _ _
      · refine S.icmp_le 49 26 rfl (by decide) (fun _ => ?_) (fun _ => ?_)
        · exact hj12 _ _
        · refine S.iinc (y8 + 8) [(1, .int (y8 + 8)), (0, .int y7)] 27 1 rfl rfl rfl (by decide) rfl ?_
          refine S.iload_n 28 1 rfl rfl ?_
          refine S.bipush (8 : Int32) 29 rfl (by decide) ?_
          refine S.iushr 30 rfl ?_
          refine S.nmi (fun x21 => ?_)
          refine S.istore_n [(0, .int x21), (1, .int (y8 + 8))] 31 rfl (by decide) rfl ?_
          exact hj12 _ _
    · refine S.icmp_le 34 18 rfl (by decide) (fun _ => ?_) (fun _ => ?_)
      · refine S.sub (lv' := [(0, .int x6), (1, .int (1 : Int32))]) [1, 0] rfl ?_
        exact hj9 _ _
      · refine S.iinc (17 : Int32) [(1, .int (17 : Int32)), (0, .int x6)] 19 0 rfl rfl rfl (by decide) rfl ?_
        refine S.iload_n 20 1 rfl rfl ?_
        refine S.bipush (16 : Int32) 21 rfl (by decide) ?_
        refine S.iushr 22 rfl ?_
        refine S.nmi (fun x22 => ?_)
        refine S.istore_n [(0, .int x22), (1, .int (17 : Int32))] 23 rfl (by decide) rfl ?_
        exact hj9 _ _
  · refine S.iload_n 10 0 rfl rfl ?_
    refine S.bipush (32 : Int32) 11 rfl (by decide) ?_
    refine S.iand 12 rfl ?_
    exact S.iret 13 rfl rfl rfl (Nat.le_refl _) (Nat.le_refl _) rfl
def F_J13_numberOfTrailingZeros_95d88 (l0 : Int64) : Option Int32 :=
  lb ((Int64.toInt32 l0)) fun x2 =>
  if x2 = 0 then
    cp (F_J6_numberOfTrailingZeros_0f7a4 (Int64.toInt32 (olushr l0 (32 : Int32)))) fun r4 =>
    some ((32 : Int32) + r4)
  else
    cp (F_J6_numberOfTrailingZeros_0f7a4 x2) fun r3 =>
    some r3
set_option maxRecDepth 100000 in
theorem cm_J13_numberOfTrailingZeros_95d88 (h : Hp) (l0 : Int64) : CM mJ13_numberOfTrailingZeros_95d88 2 0 0 [.long l0] h (pI h) (F_J13_numberOfTrailingZeros_95d88 l0) := by
  refine S.of okJ13_numberOfTrailingZeros_95d88 pn_J13 (Nat.le_of_ble_eq_true rfl) ?_
  refine S.sub (lv' := [(0, .long l0)]) [0] rfl ?_
  unfold F_J13_numberOfTrailingZeros_95d88
  refine S.lload_n 0 0 rfl rfl ?_
  refine S.l2i 1 rfl ?_
  refine S.nmi (fun x2 => ?_)
  refine S.istore_n [(2, .int x2), (0, .long l0)] 2 rfl (by decide) rfl ?_
  refine S.iload_n 3 0 rfl rfl ?_
  refine S.if_ne 21 4 rfl (by decide) (fun _ => ?_) (fun _ => ?_)
  · refine S.iload_n 13 0 rfl rfl ?_
    refine S.qSI (d := 1) (av := [.int x2]) (rs := [.int x2]) 14 rfl co_J13_311 rfl rfl ⟨⟨Nat.le_of_ble_eq_true rfl, Nat.le_of_ble_eq_true rfl⟩, ⟨Nat.le_of_ble_eq_true rfl, Nat.le_of_ble_eq_true rfl⟩, Nat.le_of_ble_eq_true rfl⟩ (cm_J6_numberOfTrailingZeros_0f7a4 h x2) (fun r3 => ?_)
    exact S.iret 15 rfl rfl rfl (Nat.le_refl _) (Nat.le_refl _) rfl
  · refine S.bipush (32 : Int32) 5 rfl (by decide) ?_
    refine S.lload_n 6 1 rfl rfl ?_
    refine S.bipush (32 : Int32) 7 rfl (by decide) ?_
    refine S.lushr 8 rfl ?_
    refine S.l2i 9 rfl ?_
    refine S.qSI (d := 1) (av := [.int (Int64.toInt32 (olushr l0 (32 : Int32)))]) (rs := [.int (Int64.toInt32 (olushr l0 (32 : Int32)))]) 10 rfl co_J13_311 rfl rfl ⟨⟨Nat.le_of_ble_eq_true rfl, Nat.le_of_ble_eq_true rfl⟩, ⟨Nat.le_of_ble_eq_true rfl, Nat.le_of_ble_eq_true rfl⟩, Nat.le_of_ble_eq_true rfl⟩ (cm_J6_numberOfTrailingZeros_0f7a4 h (Int64.toInt32 (olushr l0 (32 : Int32)))) (fun r4 => ?_)
    refine S.iadd 11 rfl ?_
    refine S.goto 25 12 rfl (by decide) ?_
    exact S.iret 15 rfl rfl rfl (Nat.le_refl _) (Nat.le_refl _) rfl
def F_J7_fill_d0a16_22_L6 (l1 : Int64) (l4 : Int32) (I : HI) : Nat → Int32 → HJ → Option (Unit × HI × HJ)
  | 0, _, _ => none
  | K+1, l3, J =>
    if l4 ≤ l3 then
      some ((), I, J)
    else
      bx l3 10 <|
      lb (uj J x_flow_drawn (Int32.toNatClampNeg l3) l1) fun J2 =>
      F_J7_fill_d0a16_22_L6 l1 l4 I K (l3 + 1) J2
set_option maxRecDepth 100000 in
theorem s_J7_fill_d0a16_22_L6 (b : Bool) (l1 : Int64) (l4 : Int32) (I : HI) : ∀ (K : Nat) (l3 : Int32) (J : HJ), S (fV (zs b)) mJ7_fill_d0a16 (rmd 1 0 0) 0 0 (0, 0) 6 [(0, .ref 22), (1, .long l1), (3, .int l3), (4, .int l4)] [] (zs b, I, J) (F_J7_fill_d0a16_22_L6 l1 l4 I K l3 J) := by
  intro K
  induction K with
  | zero => intro l3 J; exact S.none
  | succ K ih =>
    intro l3 J
    rw [F_J7_fill_d0a16_22_L6]
    refine S.iload_n 5 2 rfl rfl ?_
    refine S.iload 6 3 rfl rfl ?_
    refine S.icmp_ge 22 7 rfl (by decide) (fun _ => ?_) (fun _ => ?_)
    · exact S.vret 14 rfl rfl (Nat.le_refl _) (Nat.le_refl _) rfl
    · refine S.aload_n 8 0 rfl rfl ?_
      refine S.iload_n 9 2 rfl rfl ?_
      refine S.lload_n 10 1 rfl rfl ?_
      refine S.last 11 rfl rfl (fun J2 => ?_)
      refine S.iinc (l3 + 1) [(3, .int (l3 + 1)), (0, .ref 22), (1, .long l1), (4, .int l4)] 12 2 rfl rfl rfl (by decide) rfl ?_
      refine S.goto 6 13 rfl (by decide) ?_
      refine S.sub (lv' := [(0, .ref 22), (1, .long l1), (3, .int (l3 + 1)), (4, .int l4)]) [1, 2, 0, 3] rfl ?_
      exact ih _ _
def F_J7_fill_d0a16_22 (l1 : Int64) (I : HI) (J : HJ) : Option (Unit × HI × HJ) :=
  F_J7_fill_d0a16_22_L6 l1 (10 : Int32) I bgf (0 : Int32) J
set_option maxRecDepth 100000 in
theorem cm_J7_fill_d0a16_22 (b : Bool) (l1 : Int64) (I : HI) (J : HJ) : CM mJ7_fill_d0a16 1 0 0 [.ref 22, .long l1] (zs b, I, J) (fV (zs b)) (F_J7_fill_d0a16_22 l1 I J) := by
  refine S.of okJ7_fill_d0a16 pn_J7 (Nat.le_of_ble_eq_true rfl) ?_
  refine S.sub (lv' := [(0, .ref 22), (1, .long l1)]) [0, 1] rfl ?_
  unfold F_J7_fill_d0a16_22
  refine S.iconst (0 : Int32) 0 rfl (by decide) ?_
  refine S.istore_n [(3, .int (0 : Int32)), (0, .ref 22), (1, .long l1)] 1 rfl (by decide) rfl ?_
  refine S.aload_n 2 1 rfl rfl ?_
  refine S.alen (10 : Int32) 3 rfl rfl (by decide) (by decide) (by decide) ?_
  refine S.istore [(4, .int (10 : Int32)), (3, .int (0 : Int32)), (0, .ref 22), (1, .long l1)] 4 rfl (by decide) rfl ?_
  refine S.sub (lv' := [(0, .ref 22), (1, .long l1), (3, .int (0 : Int32)), (4, .int (10 : Int32))]) [2, 3, 1, 0] rfl ?_
  refine s_J7_fill_d0a16_22_L6 b _ _ _ bgf _ _
def F_X0_asked_L8 (l1 : Int32) (l2 : Int32) (I : HI) (J : HJ) (kx71 : Int64 → Int64 → Option Int64) : Nat → Int64 → Int64 → Int32 → Option Int64
  | 0, _, _, _ => none
  | K+1, l3, l5, l7 =>
    if (I x_board f_Board_wide) ≤ l7 then
      kx71 l3 l5
    else
      lb (fun (y3 : Int64) (y4 : Int64) =>
      lb ((y3 ||| y4)) fun x6 =>
      lb (fun (y7 : Int64) (y8 : Int64) =>
      lb ((y7 ||| y8)) fun x10 =>
      F_X0_asked_L8 l1 l2 I J kx71 K x6 x10 (l7 + 1)) fun j9 =>
      if ((oushr l2 l7) &&& (1 : Int32)) = 0 then
        j9 l5 (0 : Int64)
      else
        bx l7 10 <|
        j9 l5 (J x_board_into (Int32.toNatClampNeg l7))) fun j5 =>
      if ((oushr l1 l7) &&& (1 : Int32)) = 0 then
        j5 l3 (0 : Int64)
      else
        bx l7 10 <|
        j5 l3 (J x_board_out (Int32.toNatClampNeg l7))
set_option maxRecDepth 100000 in
theorem s_X0_asked_L8 (b : Bool) (l1 : Int32) (l2 : Int32) (I : HI) (J : HJ) (kx71 : Int64 → Int64 → Option Int64) (hkx71 : ∀ (y3 : Int64) (y5 : Int64), S (pL (zs b, I, J)) mX0_asked (rmd 1 0 0) 0 0 (0, 0) 71 [(3, .long y3), (5, .long y5)] [] (zs b, I, J) (kx71 y3 y5)) : ∀ (K : Nat) (l3 : Int64) (l5 : Int64) (l7 : Int32), S (pL (zs b, I, J)) mX0_asked (rmd 1 0 0) 0 0 (0, 0) 8 [(0, .ref 1), (1, .int l1), (2, .int l2), (3, .long l3), (5, .long l5), (7, .int l7)] [] (zs b, I, J) (F_X0_asked_L8 l1 l2 I J kx71 K l3 l5 l7) := by
  intro K
  induction K with
  | zero => intro l3 l5 l7; exact S.none
  | succ K ih =>
    intro l3 l5 l7
    rw [F_X0_asked_L8]
    refine S.iload 6 5 rfl rfl ?_
    refine S.aload_n 7 0 rfl rfl ?_
    refine S.getI 8 rfl fo_X0_9 rfl rfl ?_
    refine S.icmp_ge 71 9 rfl (by decide) (fun _ => ?_) (fun _ => ?_)
    · refine S.sub (lv' := [(3, .long l3), (5, .long l5)]) [3, 4] rfl ?_
      exact hkx71 _ _
    · refine S.lload_n 10 3 rfl rfl ?_
      refine S.iload_n 11 1 rfl rfl ?_
      refine S.iload 12 5 rfl rfl ?_
      refine S.iushr 13 rfl ?_
      refine S.iconst (1 : Int32) 14 rfl (by decide) ?_
      refine S.iand 15 rfl ?_
      refine S.jn (fun j => ∀ (y3 : Int64) (y4 : Int64), S (pL (zs b, I, J)) mX0_asked (rmd 1 0 0) 0 0 (0, 0) 38 [(0, .ref 1), (1, .int l1), (2, .int l2), (5, .long l5), (7, .int l7)] [.long y4, .long y3] (zs b, I, J) (j y3 y4)) (fun y3 y4 => ?_) (fun j5 hj5 => ?_)
      · refine S.lor 23 rfl ?_
        refine S.nml (fun x6 => ?_)
        refine S.lstore_n [(3, .long x6), (0, .ref 1), (1, .int l1), (2, .int l2), (5, .long l5), (7, .int l7)] 24 rfl (by decide) rfl ?_
        refine S.lload 25 4 rfl rfl ?_
        refine S.iload_n 26 3 rfl rfl ?_
        refine S.iload 27 5 rfl rfl ?_
        refine S.iushr 28 rfl ?_
        refine S.iconst (1 : Int32) 29 rfl (by decide) ?_
        refine S.iand 30 rfl ?_
        refine S.jn (fun j => ∀ (y7 : Int64) (y8 : Int64), S (pL (zs b, I, J)) mX0_asked (rmd 1 0 0) 0 0 (0, 0) 62 [(0, .ref 1), (1, .int l1), (2, .int l2), (3, .long x6), (7, .int l7)] [.long y8, .long y7] (zs b, I, J) (j y7 y8)) (fun y7 y8 => ?_) (fun j9 hj9 => ?_)
        · refine S.lor 38 rfl ?_
          refine S.nml (fun x10 => ?_)
          refine S.lstore [(5, .long x10), (0, .ref 1), (1, .int l1), (2, .int l2), (3, .long x6), (7, .int l7)] 39 rfl (by decide) rfl ?_
          refine S.iinc (l7 + 1) [(7, .int (l7 + 1)), (5, .long x10), (0, .ref 1), (1, .int l1), (2, .int l2), (3, .long x6)] 40 5 rfl rfl rfl (by decide) rfl ?_
          refine S.goto 8 41 rfl (by decide) ?_
          refine S.sub (lv' := [(0, .ref 1), (1, .int l1), (2, .int l2), (3, .long x6), (5, .long x10), (7, .int (l7 + 1))]) [2, 3, 4, 5, 1, 0] rfl ?_
          exact ih _ _ _
        · refine S.if_eq 61 31 rfl (by decide) (fun _ => ?_) (fun _ => ?_)
          · refine S.lconst (0 : Int64) 37 rfl (by decide) ?_
            refine S.sub (lv' := [(0, .ref 1), (1, .int l1), (2, .int l2), (3, .long x6), (7, .int l7)]) [1, 2, 3, 0, 5] rfl ?_
            exact hj9 _ _
          · refine S.aload_n 32 1 rfl rfl ?_
            refine S.getR 33 rfl fo_X0_44 rfl rfl rfl ?_
            refine S.iload 34 5 rfl rfl ?_
            refine S.lald 35 rfl rfl ?_
            refine S.goto 62 36 rfl (by decide) ?_
            refine S.sub (lv' := [(0, .ref 1), (1, .int l1), (2, .int l2), (3, .long x6), (7, .int l7)]) [1, 2, 3, 0, 5] rfl ?_
            exact hj9 _ _
      · refine S.if_eq 37 16 rfl (by decide) (fun _ => ?_) (fun _ => ?_)
        · refine S.lconst (0 : Int64) 22 rfl (by decide) ?_
          refine S.sub (lv' := [(0, .ref 1), (1, .int l1), (2, .int l2), (5, .long l5), (7, .int l7)]) [0, 1, 2, 4, 5] rfl ?_
          exact hj5 _ _
        · refine S.aload_n 17 0 rfl rfl ?_
          refine S.getR 18 rfl fo_X0_40 rfl rfl rfl ?_
          refine S.iload 19 5 rfl rfl ?_
          refine S.lald 20 rfl rfl ?_
          refine S.goto 38 21 rfl (by decide) ?_
          refine S.sub (lv' := [(0, .ref 1), (1, .int l1), (2, .int l2), (5, .long l5), (7, .int l7)]) [0, 1, 2, 4, 5] rfl ?_
          exact hj5 _ _
def F_X0_asked (l1 : Int32) (l2 : Int32) (I : HI) (J : HJ) : Option Int64 :=
  F_X0_asked_L8 l1 l2 I J (fun (y11 : Int64) (y12 : Int64) =>
  some (y11 &&& y12)) bgf (0 : Int64) (0 : Int64) (0 : Int32)
set_option maxRecDepth 100000 in
theorem cm_X0_asked (b : Bool) (l1 : Int32) (l2 : Int32) (I : HI) (J : HJ) : CM mX0_asked 1 0 0 [.ref 1, .int l1, .int l2] (zs b, I, J) (pL (zs b, I, J)) (F_X0_asked l1 l2 I J) := by
  refine S.of okX0_asked pn_X0 (Nat.le_of_ble_eq_true rfl) ?_
  refine S.sub (lv' := [(0, .ref 1), (1, .int l1), (2, .int l2)]) [0, 1, 2] rfl ?_
  unfold F_X0_asked
  refine S.lconst (0 : Int64) 0 rfl (by decide) ?_
  refine S.lstore_n [(3, .long (0 : Int64)), (0, .ref 1), (1, .int l1), (2, .int l2)] 1 rfl (by decide) rfl ?_
  refine S.lconst (0 : Int64) 2 rfl (by decide) ?_
  refine S.lstore [(5, .long (0 : Int64)), (3, .long (0 : Int64)), (0, .ref 1), (1, .int l1), (2, .int l2)] 3 rfl (by decide) rfl ?_
  refine S.iconst (0 : Int32) 4 rfl (by decide) ?_
  refine S.istore [(7, .int (0 : Int32)), (5, .long (0 : Int64)), (3, .long (0 : Int64)), (0, .ref 1), (1, .int l1), (2, .int l2)] 5 rfl (by decide) rfl ?_
  refine S.sub (lv' := [(0, .ref 1), (1, .int l1), (2, .int l2), (3, .long (0 : Int64)), (5, .long (0 : Int64)), (7, .int (0 : Int32))]) [3, 4, 5, 2, 1, 0] rfl ?_
  refine s_X0_asked_L8 b _ _ _ _ _ (fun y11 y12 => ?_) bgf _ _ _
  refine S.lload_n 42 0 rfl rfl ?_
  refine S.lload 43 1 rfl rfl ?_
  refine S.land 44 rfl ?_
  exact S.lret 45 rfl rfl (Nat.le_refl _) (Nat.le_refl _) rfl
def F_X10_clear  (I : HI) (J : HJ) : Option (Unit × HI × HJ) :=
  lb (ui I x_told f_Told_size (0 : Int32)) fun I2 =>
  some ((), I2, J)
set_option maxRecDepth 100000 in
theorem cm_X10_clear (b : Bool)  (I : HI) (J : HJ) : CM mX10_clear 1 0 0 [.ref 15] (zs b, I, J) (fV (zs b)) (F_X10_clear  I J) := by
  refine S.of okX10_clear pn_X10 (Nat.le_of_ble_eq_true rfl) ?_
  refine S.sub (lv' := [(0, .ref 15)]) [0] rfl ?_
  unfold F_X10_clear
  refine S.aload_n 0 0 rfl rfl ?_
  refine S.iconst (0 : Int32) 1 rfl (by decide) ?_
  refine S.putI 2 rfl fo_X10_13 rfl rfl rfl rfl (fun _ hq => by cases hq; exact Or.inl rfl) (fun I2 => ?_)
  exact S.vret 3 rfl rfl (Nat.le_refl _) (Nat.le_refl _) rfl
def F_X10_add (l1 : Int64) (I : HI) (J : HJ) : Option (Unit × HI × HJ) :=
  if (16 : Int32) ≤ (I x_told f_Told_size) then
    some ((), I, J)
  else
    bx (I x_told f_Told_size) 16 <|
    lb (uj J x_told_numbers (Int32.toNatClampNeg (I x_told f_Told_size)) l1) fun J3 =>
    lb (ui I x_told f_Told_size ((I x_told f_Told_size) + (1 : Int32))) fun I4 =>
    some ((), I4, J3)
set_option maxRecDepth 100000 in
theorem cm_X10_add (b : Bool) (l1 : Int64) (I : HI) (J : HJ) : CM mX10_add 1 0 0 [.ref 15, .long l1] (zs b, I, J) (fV (zs b)) (F_X10_add l1 I J) := by
  refine S.of okX10_add pn_X10 (Nat.le_of_ble_eq_true rfl) ?_
  refine S.sub (lv' := [(0, .ref 15), (1, .long l1)]) [0, 1] rfl ?_
  unfold F_X10_add
  refine S.aload_n 0 0 rfl rfl ?_
  refine S.getI 1 rfl fo_X10_13 rfl rfl ?_
  refine S.aload_n 2 0 rfl rfl ?_
  refine S.getR 3 rfl fo_X10_7 rfl rfl rfl ?_
  refine S.alen (16 : Int32) 4 rfl rfl (by decide) (by decide) (by decide) ?_
  refine S.icmp_ge 32 5 rfl (by decide) (fun _ => ?_) (fun _ => ?_)
  · exact S.vret 18 rfl rfl (Nat.le_refl _) (Nat.le_refl _) rfl
  · refine S.aload_n 6 0 rfl rfl ?_
    refine S.getR 7 rfl fo_X10_7 rfl rfl rfl ?_
    refine S.aload_n 8 0 rfl rfl ?_
    refine S.getI 9 rfl fo_X10_13 rfl rfl ?_
    refine S.lload_n 10 1 rfl rfl ?_
    refine S.last 11 rfl rfl (fun J3 => ?_)
    refine S.aload_n 12 0 rfl rfl ?_
    refine S.dup 13 rfl rfl ?_
    refine S.getI 14 rfl fo_X10_13 rfl rfl ?_
    refine S.iconst (1 : Int32) 15 rfl (by decide) ?_
    refine S.iadd 16 rfl ?_
    refine S.putI 17 rfl fo_X10_13 rfl rfl rfl rfl (fun _ hq => by cases hq; exact Or.inl rfl) (fun I4 => ?_)
    exact S.vret 18 rfl rfl (Nat.le_refl _) (Nat.le_refl _) rfl
def F_X0_hasLamps (l1 : Int64) (I : HI) (J : HJ) : Option Int32 :=
  if (lg_cmp (olushr l1 (I x_board f_Board_lamps)) (0 : Int64)) = 0 then
    some (1 : Int32)
  else
    some (0 : Int32)
set_option maxRecDepth 100000 in
theorem cm_X0_hasLamps (b : Bool) (l1 : Int64) (I : HI) (J : HJ) : CM mX0_hasLamps 1 0 0 [.ref 1, .long l1] (zs b, I, J) (pI (zs b, I, J)) (F_X0_hasLamps l1 I J) := by
  refine S.of okX0_hasLamps pn_X0 (Nat.le_of_ble_eq_true rfl) ?_
  refine S.sub (lv' := [(0, .ref 1), (1, .long l1)]) [0, 1] rfl ?_
  unfold F_X0_hasLamps
  refine S.lload_n 0 1 rfl rfl ?_
  refine S.aload_n 1 0 rfl rfl ?_
  refine S.getI 2 rfl fo_X0_15 rfl rfl ?_
  refine S.lushr 3 rfl ?_
  refine S.lconst (0 : Int64) 4 rfl (by decide) ?_
  refine S.lcmp 5 rfl ?_
  refine S.if_ne 15 6 rfl (by decide) (fun _ => ?_) (fun _ => ?_)
  · refine S.iconst (0 : Int32) 9 rfl (by decide) ?_
    exact S.iret 10 rfl rfl rfl (Nat.le_refl _) (Nat.le_refl _) rfl
  · refine S.iconst (1 : Int32) 7 rfl (by decide) ?_
    refine S.goto 16 8 rfl (by decide) ?_
    exact S.iret 10 rfl rfl rfl (Nat.le_refl _) (Nat.le_refl _) rfl
def F_X11_settingsOf_L4 (l0 : Int32) : Nat → Int32 → Int32 → Option Int32
  | 0, _, _ => none
  | K+1, l1, l2 =>
    if l0 ≤ l2 then
      some l1
    else
      lb ((l1 * (3 : Int32))) fun x2 =>
      F_X11_settingsOf_L4 l0 K x2 (l2 + 1)
set_option maxRecDepth 100000 in
theorem s_X11_settingsOf_L4 (h : Hp) (l0 : Int32) : ∀ (K : Nat) (l1 : Int32) (l2 : Int32), S (pI h) mX11_settingsOf (rmd 1 0 0) 0 0 (0, 0) 4 [(0, .int l0), (1, .int l1), (2, .int l2)] [] h (F_X11_settingsOf_L4 l0 K l1 l2) := by
  intro K
  induction K with
  | zero => intro l1 l2; exact S.none
  | succ K ih =>
    intro l1 l2
    rw [F_X11_settingsOf_L4]
    refine S.iload_n 4 2 rfl rfl ?_
    refine S.iload_n 5 0 rfl rfl ?_
    refine S.icmp_ge 19 6 rfl (by decide) (fun _ => ?_) (fun _ => ?_)
    · refine S.iload_n 13 1 rfl rfl ?_
      exact S.iret 14 rfl rfl rfl (Nat.le_refl _) (Nat.le_refl _) rfl
    · refine S.iload_n 7 1 rfl rfl ?_
      refine S.iconst (3 : Int32) 8 rfl (by decide) ?_
      refine S.imul 9 rfl ?_
      refine S.nmi (fun x2 => ?_)
      refine S.istore_n [(1, .int x2), (0, .int l0), (2, .int l2)] 10 rfl (by decide) rfl ?_
      refine S.iinc (l2 + 1) [(2, .int (l2 + 1)), (1, .int x2), (0, .int l0)] 11 2 rfl rfl rfl (by decide) rfl ?_
      refine S.goto 4 12 rfl (by decide) ?_
      refine S.sub (lv' := [(0, .int l0), (1, .int x2), (2, .int (l2 + 1))]) [2, 1, 0] rfl ?_
      exact ih _ _
def F_X11_settingsOf (l0 : Int32) : Option Int32 :=
  F_X11_settingsOf_L4 l0 bgf (1 : Int32) (0 : Int32)
set_option maxRecDepth 100000 in
theorem cm_X11_settingsOf (h : Hp) (l0 : Int32) : CM mX11_settingsOf 1 0 0 [.int l0] h (pI h) (F_X11_settingsOf l0) := by
  refine S.of okX11_settingsOf pn_X11 (Nat.le_of_ble_eq_true rfl) ?_
  refine S.sub (lv' := [(0, .int l0)]) [0] rfl ?_
  unfold F_X11_settingsOf
  refine S.iconst (1 : Int32) 0 rfl (by decide) ?_
  refine S.istore_n [(1, .int (1 : Int32)), (0, .int l0)] 1 rfl (by decide) rfl ?_
  refine S.iconst (0 : Int32) 2 rfl (by decide) ?_
  refine S.istore_n [(2, .int (0 : Int32)), (1, .int (1 : Int32)), (0, .int l0)] 3 rfl (by decide) rfl ?_
  refine S.sub (lv' := [(0, .int l0), (1, .int (1 : Int32)), (2, .int (0 : Int32))]) [2, 1, 0] rfl ?_
  refine s_X11_settingsOf_L4 h _ bgf _ _
def F_X11_wiresThatAre_L10 (l0 : Int32) : Nat → Int32 → Int32 → Int32 → Option Int32
  | 0, _, _, _ => none
  | K+1, l3, l4, l5 =>
    if l5 < 0 then
      some l4
    else
      nzi (3 : Int32) <|
      lb (fun (y5 : Int32) =>
      nzi (3 : Int32) <|
      lb ((l3 / (3 : Int32))) fun x7 =>
      F_X11_wiresThatAre_L10 l0 K x7 y5 (l5 + (-1))) fun j6 =>
      if (orem l3 (3 : Int32)) = l0 then
        lb ((l4 ||| (oshl (1 : Int32) l5))) fun x8 =>
        j6 x8
      else
        j6 l4
set_option maxRecDepth 100000 in
theorem s_X11_wiresThatAre_L10 (h : Hp) (l0 : Int32) : ∀ (K : Nat) (l3 : Int32) (l4 : Int32) (l5 : Int32), S (pI h) mX11_wiresThatAre (rmd 1 0 0) 0 0 (0, 0) 10 [(0, .int l0), (3, .int l3), (4, .int l4), (5, .int l5)] [] h (F_X11_wiresThatAre_L10 l0 K l3 l4 l5) := by
  intro K
  induction K with
  | zero => intro l3 l4 l5; exact S.none
  | succ K ih =>
    intro l3 l4 l5
    rw [F_X11_wiresThatAre_L10]
    refine S.iload 8 3 rfl rfl ?_
    refine S.if_lt 41 9 rfl (by decide) (fun _ => ?_) (fun _ => ?_)
    · refine S.iload 27 2 rfl rfl ?_
      exact S.iret 28 rfl rfl rfl (Nat.le_refl _) (Nat.le_refl _) rfl
    · refine S.iload_n 10 1 rfl rfl ?_
      refine S.iconst (3 : Int32) 11 rfl (by decide) ?_
      refine S.irem 12 rfl ?_
      refine S.iload_n 13 0 rfl rfl ?_
      refine S.jn (fun j => ∀ (y5 : Int32), S (pI h) mX11_wiresThatAre (rmd 1 0 0) 0 0 (0, 0) 31 [(0, .int l0), (3, .int l3), (4, .int y5), (5, .int l5)] [] h (j y5)) (fun y5 => ?_) (fun j6 hj6 => ?_)
      · refine S.iload_n 21 1 rfl rfl ?_
        refine S.iconst (3 : Int32) 22 rfl (by decide) ?_
        refine S.idiv 23 rfl ?_
        refine S.nmi (fun x7 => ?_)
        refine S.istore_n [(3, .int x7), (0, .int l0), (4, .int y5), (5, .int l5)] 24 rfl (by decide) rfl ?_
        refine S.iinc (l5 + (-1)) [(5, .int (l5 + (-1))), (3, .int x7), (0, .int l0), (4, .int y5)] 25 3 rfl rfl rfl (by decide) rfl ?_
        refine S.goto 10 26 rfl (by decide) ?_
        refine S.sub (lv' := [(0, .int l0), (3, .int x7), (4, .int y5), (5, .int (l5 + (-1)))]) [2, 1, 3, 0] rfl ?_
        exact ih _ _ _
      · refine S.icmp_ne 31 14 rfl (by decide) (fun _ => ?_) (fun _ => ?_)
        · exact hj6 _
        · refine S.iload 15 2 rfl rfl ?_
          refine S.iconst (1 : Int32) 16 rfl (by decide) ?_
          refine S.iload 17 3 rfl rfl ?_
          refine S.ishl 18 rfl ?_
          refine S.ior 19 rfl ?_
          refine S.nmi (fun x8 => ?_)
          refine S.istore [(4, .int x8), (0, .int l0), (3, .int l3), (5, .int l5)] 20 rfl (by decide) rfl ?_
          refine S.sub (lv' := [(0, .int l0), (3, .int l3), (4, .int x8), (5, .int l5)]) [1, 2, 0, 3] rfl ?_
          exact hj6 _
def F_X11_wiresThatAre (l0 : Int32) (l1 : Int32) (l2 : Int32) : Option Int32 :=
  lb ((l2 - (1 : Int32))) fun x4 =>
  F_X11_wiresThatAre_L10 l0 bgf l1 (0 : Int32) x4
set_option maxRecDepth 100000 in
theorem cm_X11_wiresThatAre (h : Hp) (l0 : Int32) (l1 : Int32) (l2 : Int32) : CM mX11_wiresThatAre 1 0 0 [.int l0, .int l1, .int l2] h (pI h) (F_X11_wiresThatAre l0 l1 l2) := by
  refine S.of okX11_wiresThatAre pn_X11 (Nat.le_of_ble_eq_true rfl) ?_
  refine S.sub (lv' := [(0, .int l0), (1, .int l1), (2, .int l2)]) [0, 1, 2] rfl ?_
  unfold F_X11_wiresThatAre
  refine S.iload_n 0 1 rfl rfl ?_
  refine S.istore_n [(3, .int l1), (0, .int l0), (1, .int l1), (2, .int l2)] 1 rfl (by decide) rfl ?_
  refine S.iconst (0 : Int32) 2 rfl (by decide) ?_
  refine S.istore [(4, .int (0 : Int32)), (3, .int l1), (0, .int l0), (1, .int l1), (2, .int l2)] 3 rfl (by decide) rfl ?_
  refine S.iload_n 4 4 rfl rfl ?_
  refine S.iconst (1 : Int32) 5 rfl (by decide) ?_
  refine S.isub 6 rfl ?_
  refine S.nmi (fun x4 => ?_)
  refine S.istore [(5, .int x4), (4, .int (0 : Int32)), (3, .int l1), (0, .int l0), (1, .int l1), (2, .int l2)] 7 rfl (by decide) rfl ?_
  refine S.sub (lv' := [(0, .int l0), (3, .int l1), (4, .int (0 : Int32)), (5, .int x4)]) [3, 2, 1, 0] rfl ?_
  refine s_X11_wiresThatAre_L10 h _ bgf _ _ _
def F_J7_fill_53178_35_L5 (l1 : Int32) (l3 : Int32) (J : HJ) : Nat → Int32 → HI → Option (Unit × HI × HJ)
  | 0, _, _ => none
  | K+1, l2, I =>
    if l3 ≤ l2 then
      some ((), I, J)
    else
      bx l2 4096 <|
      lb (ui I x_table_slots (Int32.toNatClampNeg l2) l1) fun I2 =>
      F_J7_fill_53178_35_L5 l1 l3 J K (l2 + 1) I2
set_option maxRecDepth 100000 in
theorem s_J7_fill_53178_35_L5 (b : Bool) (l1 : Int32) (l3 : Int32) (J : HJ) : ∀ (K : Nat) (l2 : Int32) (I : HI), S (fV (zs b)) mJ7_fill_53178 (rmd 1 0 0) 0 0 (0, 0) 5 [(0, .ref 35), (1, .int l1), (2, .int l2), (3, .int l3)] [] (zs b, I, J) (F_J7_fill_53178_35_L5 l1 l3 J K l2 I) := by
  intro K
  induction K with
  | zero => intro l2 I; exact S.none
  | succ K ih =>
    intro l2 I
    rw [F_J7_fill_53178_35_L5]
    refine S.iload_n 5 2 rfl rfl ?_
    refine S.iload_n 6 3 rfl rfl ?_
    refine S.icmp_ge 20 7 rfl (by decide) (fun _ => ?_) (fun _ => ?_)
    · exact S.vret 14 rfl rfl (Nat.le_refl _) (Nat.le_refl _) rfl
    · refine S.aload_n 8 0 rfl rfl ?_
      refine S.iload_n 9 2 rfl rfl ?_
      refine S.iload_n 10 1 rfl rfl ?_
      refine S.iast 11 rfl rfl (fun I2 => ?_)
      refine S.iinc (l2 + 1) [(2, .int (l2 + 1)), (0, .ref 35), (1, .int l1), (3, .int l3)] 12 2 rfl rfl rfl (by decide) rfl ?_
      refine S.goto 5 13 rfl (by decide) ?_
      refine S.sub (lv' := [(0, .ref 35), (1, .int l1), (2, .int (l2 + 1)), (3, .int l3)]) [1, 2, 0, 3] rfl ?_
      exact ih _ _
def F_J7_fill_53178_35 (l1 : Int32) (I : HI) (J : HJ) : Option (Unit × HI × HJ) :=
  F_J7_fill_53178_35_L5 l1 (4096 : Int32) J bgf (0 : Int32) I
set_option maxRecDepth 100000 in
theorem cm_J7_fill_53178_35 (b : Bool) (l1 : Int32) (I : HI) (J : HJ) : CM mJ7_fill_53178 1 0 0 [.ref 35, .int l1] (zs b, I, J) (fV (zs b)) (F_J7_fill_53178_35 l1 I J) := by
  refine S.of okJ7_fill_53178 pn_J7 (Nat.le_of_ble_eq_true rfl) ?_
  refine S.sub (lv' := [(0, .ref 35), (1, .int l1)]) [0, 1] rfl ?_
  unfold F_J7_fill_53178_35
  refine S.iconst (0 : Int32) 0 rfl (by decide) ?_
  refine S.istore_n [(2, .int (0 : Int32)), (0, .ref 35), (1, .int l1)] 1 rfl (by decide) rfl ?_
  refine S.aload_n 2 1 rfl rfl ?_
  refine S.alen (4096 : Int32) 3 rfl rfl (by decide) (by decide) (by decide) ?_
  refine S.istore_n [(3, .int (4096 : Int32)), (2, .int (0 : Int32)), (0, .ref 35), (1, .int l1)] 4 rfl (by decide) rfl ?_
  refine S.sub (lv' := [(0, .ref 35), (1, .int l1), (2, .int (0 : Int32)), (3, .int (4096 : Int32))]) [2, 3, 1, 0] rfl ?_
  refine s_J7_fill_53178_35_L5 b _ _ _ bgf _ _
def F_J7_rangeCheck_23922 (l0 : Int32) (l1 : Int32) (l2 : Int32) : Option Unit :=
  if l1 ≤ l2 then
    if 0 ≤ l1 then
      if l2 ≤ l0 then
        some ()
      else
        none
    else
      none
  else
    none
set_option maxRecDepth 100000 in
theorem cm_J7_rangeCheck_23922 (h : Hp) (l0 : Int32) (l1 : Int32) (l2 : Int32) : CM mJ7_rangeCheck_23922 1 0 0 [.int l0, .int l1, .int l2] h (pV h) (F_J7_rangeCheck_23922 l0 l1 l2) := by
  refine S.of okJ7_rangeCheck_23922 pn_J7 (Nat.le_of_ble_eq_true rfl) ?_
  refine S.sub (lv' := [(0, .int l0), (1, .int l1), (2, .int l2)]) [0, 1, 2] rfl ?_
  unfold F_J7_rangeCheck_23922
  refine S.iload_n 0 1 rfl rfl ?_
  refine S.iload_n 1 2 rfl rfl ?_
  refine S.icmp_le 46 2 rfl (by decide) (fun _ => ?_) (fun _ => ?_)
  · refine S.iload_n 21 1 rfl rfl ?_
    refine S.if_ge 59 22 rfl (by decide) (fun _ => ?_) (fun _ => ?_)
    · refine S.iload_n 28 2 rfl rfl ?_
      refine S.iload_n 29 0 rfl rfl ?_
      refine S.icmp_le 73 30 rfl (by decide) (fun _ => ?_) (fun _ => ?_)
      · exact S.vret 36 rfl rfl (Nat.le_refl _) (Nat.le_refl _) rfl
      · exact S.none
    · exact S.none
  · exact S.none
def F_J7_fill_fda19_40_L10 (l2 : Int32) (l3 : Int32) (J : HJ) : Nat → Int32 → HI → Option (Unit × HI × HJ)
  | 0, _, _ => none
  | K+1, l4, I =>
    if l2 ≤ l4 then
      some ((), I, J)
    else
      bx l4 4096 <|
      lb (ui I x_parting_fewest (Int32.toNatClampNeg l4) l3) fun I2 =>
      F_J7_fill_fda19_40_L10 l2 l3 J K (l4 + 1) I2
set_option maxRecDepth 100000 in
theorem s_J7_fill_fda19_40_L10 (b : Bool) (l2 : Int32) (l3 : Int32) (J : HJ) : ∀ (K : Nat) (l4 : Int32) (I : HI), S (fV (zs b)) mJ7_fill_fda19 (rmd 2 0 0) 0 0 (0, 0) 10 [(0, .ref 40), (2, .int l2), (3, .int l3), (4, .int l4)] [] (zs b, I, J) (F_J7_fill_fda19_40_L10 l2 l3 J K l4 I) := by
  intro K
  induction K with
  | zero => intro l4 I; exact S.none
  | succ K ih =>
    intro l4 I
    rw [F_J7_fill_fda19_40_L10]
    refine S.iload 7 3 rfl rfl ?_
    refine S.iload_n 8 1 rfl rfl ?_
    refine S.icmp_ge 27 9 rfl (by decide) (fun _ => ?_) (fun _ => ?_)
    · exact S.vret 16 rfl rfl (Nat.le_refl _) (Nat.le_refl _) rfl
    · refine S.aload_n 10 0 rfl rfl ?_
      refine S.iload 11 3 rfl rfl ?_
      refine S.iload_n 12 2 rfl rfl ?_
      refine S.iast 13 rfl rfl (fun I2 => ?_)
      refine S.iinc (l4 + 1) [(4, .int (l4 + 1)), (0, .ref 40), (2, .int l2), (3, .int l3)] 14 3 rfl rfl rfl (by decide) rfl ?_
      refine S.goto 10 15 rfl (by decide) ?_
      refine S.sub (lv' := [(0, .ref 40), (2, .int l2), (3, .int l3), (4, .int (l4 + 1))]) [1, 2, 3, 0] rfl ?_
      exact ih _ _
def F_J7_fill_fda19_40 (l1 : Int32) (l2 : Int32) (l3 : Int32) (I : HI) (J : HJ) : Option (Unit × HI × HJ) :=
  cp (F_J7_rangeCheck_23922 (4096 : Int32) l1 l2) fun _ =>
  F_J7_fill_fda19_40_L10 l2 l3 J bgf l1 I
set_option maxRecDepth 100000 in
theorem cm_J7_fill_fda19_40 (b : Bool) (l1 : Int32) (l2 : Int32) (l3 : Int32) (I : HI) (J : HJ) : CM mJ7_fill_fda19 2 0 0 [.ref 40, .int l1, .int l2, .int l3] (zs b, I, J) (fV (zs b)) (F_J7_fill_fda19_40 l1 l2 l3 I J) := by
  refine S.of okJ7_fill_fda19 pn_J7 (Nat.le_of_ble_eq_true rfl) ?_
  refine S.sub (lv' := [(0, .ref 40), (1, .int l1), (2, .int l2), (3, .int l3)]) [0, 1, 2, 3] rfl ?_
  unfold F_J7_fill_fda19_40
  refine S.aload_n 0 0 rfl rfl ?_
  refine S.alen (4096 : Int32) 1 rfl rfl (by decide) (by decide) (by decide) ?_
  refine S.iload_n 2 1 rfl rfl ?_
  refine S.iload_n 3 2 rfl rfl ?_
  refine S.qSV (d := 1) (av := [.int (4096 : Int32), .int l1, .int l2]) (rs := [.int l2, .int l1, .int (4096 : Int32)]) 4 rfl co_J7_13 rfl rfl ⟨⟨Nat.le_of_ble_eq_true rfl, Nat.le_of_ble_eq_true rfl⟩, ⟨Nat.le_of_ble_eq_true rfl, Nat.le_of_ble_eq_true rfl⟩, Nat.le_of_ble_eq_true rfl⟩ (cm_J7_rangeCheck_23922 (zs b, I, J) (4096 : Int32) l1 l2) (fun _ => ?_)
  refine S.iload_n 5 1 rfl rfl ?_
  refine S.istore [(4, .int l1), (0, .ref 40), (1, .int l1), (2, .int l2), (3, .int l3)] 6 rfl (by decide) rfl ?_
  refine S.sub (lv' := [(0, .ref 40), (2, .int l2), (3, .int l3), (4, .int l1)]) [1, 3, 4, 0] rfl ?_
  refine s_J7_fill_fda19_40_L10 b _ _ _ bgf _ _
def F_J7_fill_53178_41_L5 (l1 : Int32) (l3 : Int32) (J : HJ) : Nat → Int32 → HI → Option (Unit × HI × HJ)
  | 0, _, _ => none
  | K+1, l2, I =>
    if l3 ≤ l2 then
      some ((), I, J)
    else
      bx l2 12 <|
      lb (ui I x_parting_near (Int32.toNatClampNeg l2) l1) fun I2 =>
      F_J7_fill_53178_41_L5 l1 l3 J K (l2 + 1) I2
set_option maxRecDepth 100000 in
theorem s_J7_fill_53178_41_L5 (b : Bool) (l1 : Int32) (l3 : Int32) (J : HJ) : ∀ (K : Nat) (l2 : Int32) (I : HI), S (fV (zs b)) mJ7_fill_53178 (rmd 1 0 0) 0 0 (0, 0) 5 [(0, .ref 41), (1, .int l1), (2, .int l2), (3, .int l3)] [] (zs b, I, J) (F_J7_fill_53178_41_L5 l1 l3 J K l2 I) := by
  intro K
  induction K with
  | zero => intro l2 I; exact S.none
  | succ K ih =>
    intro l2 I
    rw [F_J7_fill_53178_41_L5]
    refine S.iload_n 5 2 rfl rfl ?_
    refine S.iload_n 6 3 rfl rfl ?_
    refine S.icmp_ge 20 7 rfl (by decide) (fun _ => ?_) (fun _ => ?_)
    · exact S.vret 14 rfl rfl (Nat.le_refl _) (Nat.le_refl _) rfl
    · refine S.aload_n 8 0 rfl rfl ?_
      refine S.iload_n 9 2 rfl rfl ?_
      refine S.iload_n 10 1 rfl rfl ?_
      refine S.iast 11 rfl rfl (fun I2 => ?_)
      refine S.iinc (l2 + 1) [(2, .int (l2 + 1)), (0, .ref 41), (1, .int l1), (3, .int l3)] 12 2 rfl rfl rfl (by decide) rfl ?_
      refine S.goto 5 13 rfl (by decide) ?_
      refine S.sub (lv' := [(0, .ref 41), (1, .int l1), (2, .int (l2 + 1)), (3, .int l3)]) [1, 2, 0, 3] rfl ?_
      exact ih _ _
def F_J7_fill_53178_41 (l1 : Int32) (I : HI) (J : HJ) : Option (Unit × HI × HJ) :=
  F_J7_fill_53178_41_L5 l1 (12 : Int32) J bgf (0 : Int32) I
set_option maxRecDepth 100000 in
theorem cm_J7_fill_53178_41 (b : Bool) (l1 : Int32) (I : HI) (J : HJ) : CM mJ7_fill_53178 1 0 0 [.ref 41, .int l1] (zs b, I, J) (fV (zs b)) (F_J7_fill_53178_41 l1 I J) := by
  refine S.of okJ7_fill_53178 pn_J7 (Nat.le_of_ble_eq_true rfl) ?_
  refine S.sub (lv' := [(0, .ref 41), (1, .int l1)]) [0, 1] rfl ?_
  unfold F_J7_fill_53178_41
  refine S.iconst (0 : Int32) 0 rfl (by decide) ?_
  refine S.istore_n [(2, .int (0 : Int32)), (0, .ref 41), (1, .int l1)] 1 rfl (by decide) rfl ?_
  refine S.aload_n 2 1 rfl rfl ?_
  refine S.alen (12 : Int32) 3 rfl rfl (by decide) (by decide) (by decide) ?_
  refine S.istore_n [(3, .int (12 : Int32)), (2, .int (0 : Int32)), (0, .ref 41), (1, .int l1)] 4 rfl (by decide) rfl ?_
  refine S.sub (lv' := [(0, .ref 41), (1, .int l1), (2, .int (0 : Int32)), (3, .int (12 : Int32))]) [2, 3, 1, 0] rfl ?_
  refine s_J7_fill_53178_41_L5 b _ _ _ bgf _ _
def F_J6_bitCount_0f7a4 (l0 : Int32) : Option Int32 :=
  lb ((l0 - ((oushr l0 (1 : Int32)) &&& (1431655765 : Int32)))) fun x6 =>
  lb (((x6 &&& (858993459 : Int32)) + ((oushr x6 (2 : Int32)) &&& (858993459 : Int32)))) fun x7 =>
  lb (((x7 + (oushr x7 (4 : Int32))) &&& (252645135 : Int32))) fun x8 =>
  lb ((x8 + (oushr x8 (8 : Int32)))) fun x9 =>
  lb ((x9 + (oushr x9 (16 : Int32)))) fun x10 =>
  some (x10 &&& (63 : Int32))
set_option maxRecDepth 100000 in
theorem cm_J6_bitCount_0f7a4 (h : Hp) (l0 : Int32) : CM mJ6_bitCount_0f7a4 1 0 0 [.int l0] h (pI h) (F_J6_bitCount_0f7a4 l0) := by
  refine S.of okJ6_bitCount_0f7a4 pn_J6 (Nat.le_of_ble_eq_true rfl) ?_
  refine S.sub (lv' := [(0, .int l0)]) [0] rfl ?_
  unfold F_J6_bitCount_0f7a4
  refine S.iload_n 0 0 rfl rfl ?_
  refine S.iload_n 1 0 rfl rfl ?_
  refine S.iconst (1 : Int32) 2 rfl (by decide) ?_
  refine S.iushr 3 rfl ?_
  refine S.ldcw (1431655765 : Int32) 4 rfl ko_J6_265 ?_
  refine S.iand 5 rfl ?_
  refine S.isub 6 rfl ?_
  refine S.nmi (fun x6 => ?_)
  refine S.istore_n [(0, .int x6)] 7 rfl (by decide) rfl ?_
  refine S.iload_n 8 0 rfl rfl ?_
  refine S.ldcw (858993459 : Int32) 9 rfl ko_J6_266 ?_
  refine S.iand 10 rfl ?_
  refine S.iload_n 11 0 rfl rfl ?_
  refine S.iconst (2 : Int32) 12 rfl (by decide) ?_
  refine S.iushr 13 rfl ?_
  refine S.ldcw (858993459 : Int32) 14 rfl ko_J6_266 ?_
  refine S.iand 15 rfl ?_
  refine S.iadd 16 rfl ?_
  refine S.nmi (fun x7 => ?_)
  refine S.istore_n [(0, .int x7)] 17 rfl (by decide) rfl ?_
  refine S.iload_n 18 0 rfl rfl ?_
  refine S.iload_n 19 0 rfl rfl ?_
  refine S.iconst (4 : Int32) 20 rfl (by decide) ?_
  refine S.iushr 21 rfl ?_
  refine S.iadd 22 rfl ?_
  refine S.ldcw (252645135 : Int32) 23 rfl ko_J6_267 ?_
  refine S.iand 24 rfl ?_
  refine S.nmi (fun x8 => ?_)
  refine S.istore_n [(0, .int x8)] 25 rfl (by decide) rfl ?_
  refine S.iload_n 26 0 rfl rfl ?_
  refine S.iload_n 27 0 rfl rfl ?_
  refine S.bipush (8 : Int32) 28 rfl (by decide) ?_
  refine S.iushr 29 rfl ?_
  refine S.iadd 30 rfl ?_
  refine S.nmi (fun x9 => ?_)
  refine S.istore_n [(0, .int x9)] 31 rfl (by decide) rfl ?_
  refine S.iload_n 32 0 rfl rfl ?_
  refine S.iload_n 33 0 rfl rfl ?_
  refine S.bipush (16 : Int32) 34 rfl (by decide) ?_
  refine S.iushr 35 rfl ?_
  refine S.iadd 36 rfl ?_
  refine S.nmi (fun x10 => ?_)
  refine S.istore_n [(0, .int x10)] 37 rfl (by decide) rfl ?_
  refine S.iload_n 38 0 rfl rfl ?_
  refine S.bipush (63 : Int32) 39 rfl (by decide) ?_
  refine S.iand 40 rfl ?_
  exact S.iret 41 rfl rfl rfl (Nat.le_refl _) (Nat.le_refl _) rfl
def F_J7_fill_d0a16_47_L6 (l1 : Int64) (l4 : Int32) (I : HI) : Nat → Int32 → HJ → Option (Unit × HI × HJ)
  | 0, _, _ => none
  | K+1, l3, J =>
    if l4 ≤ l3 then
      some ((), I, J)
    else
      bx l3 12 <|
      lb (uj J x_parting_sums (Int32.toNatClampNeg l3) l1) fun J2 =>
      F_J7_fill_d0a16_47_L6 l1 l4 I K (l3 + 1) J2
set_option maxRecDepth 100000 in
theorem s_J7_fill_d0a16_47_L6 (b : Bool) (l1 : Int64) (l4 : Int32) (I : HI) : ∀ (K : Nat) (l3 : Int32) (J : HJ), S (fV (zs b)) mJ7_fill_d0a16 (rmd 1 0 0) 0 0 (0, 0) 6 [(0, .ref 47), (1, .long l1), (3, .int l3), (4, .int l4)] [] (zs b, I, J) (F_J7_fill_d0a16_47_L6 l1 l4 I K l3 J) := by
  intro K
  induction K with
  | zero => intro l3 J; exact S.none
  | succ K ih =>
    intro l3 J
    rw [F_J7_fill_d0a16_47_L6]
    refine S.iload_n 5 2 rfl rfl ?_
    refine S.iload 6 3 rfl rfl ?_
    refine S.icmp_ge 22 7 rfl (by decide) (fun _ => ?_) (fun _ => ?_)
    · exact S.vret 14 rfl rfl (Nat.le_refl _) (Nat.le_refl _) rfl
    · refine S.aload_n 8 0 rfl rfl ?_
      refine S.iload_n 9 2 rfl rfl ?_
      refine S.lload_n 10 1 rfl rfl ?_
      refine S.last 11 rfl rfl (fun J2 => ?_)
      refine S.iinc (l3 + 1) [(3, .int (l3 + 1)), (0, .ref 47), (1, .long l1), (4, .int l4)] 12 2 rfl rfl rfl (by decide) rfl ?_
      refine S.goto 6 13 rfl (by decide) ?_
      refine S.sub (lv' := [(0, .ref 47), (1, .long l1), (3, .int (l3 + 1)), (4, .int l4)]) [1, 2, 0, 3] rfl ?_
      exact ih _ _
def F_J7_fill_d0a16_47 (l1 : Int64) (I : HI) (J : HJ) : Option (Unit × HI × HJ) :=
  F_J7_fill_d0a16_47_L6 l1 (12 : Int32) I bgf (0 : Int32) J
set_option maxRecDepth 100000 in
theorem cm_J7_fill_d0a16_47 (b : Bool) (l1 : Int64) (I : HI) (J : HJ) : CM mJ7_fill_d0a16 1 0 0 [.ref 47, .long l1] (zs b, I, J) (fV (zs b)) (F_J7_fill_d0a16_47 l1 I J) := by
  refine S.of okJ7_fill_d0a16 pn_J7 (Nat.le_of_ble_eq_true rfl) ?_
  refine S.sub (lv' := [(0, .ref 47), (1, .long l1)]) [0, 1] rfl ?_
  unfold F_J7_fill_d0a16_47
  refine S.iconst (0 : Int32) 0 rfl (by decide) ?_
  refine S.istore_n [(3, .int (0 : Int32)), (0, .ref 47), (1, .long l1)] 1 rfl (by decide) rfl ?_
  refine S.aload_n 2 1 rfl rfl ?_
  refine S.alen (12 : Int32) 3 rfl rfl (by decide) (by decide) (by decide) ?_
  refine S.istore [(4, .int (12 : Int32)), (3, .int (0 : Int32)), (0, .ref 47), (1, .long l1)] 4 rfl (by decide) rfl ?_
  refine S.sub (lv' := [(0, .ref 47), (1, .long l1), (3, .int (0 : Int32)), (4, .int (12 : Int32))]) [2, 3, 1, 0] rfl ?_
  refine s_J7_fill_d0a16_47_L6 b _ _ _ bgf _ _
def F_X3_addSeen_25 (l1 : Int32) (l2 : Int32) (l3 : Int64) (I : HI) (J : HJ) : Option (Int32 × HI × HJ) :=
  if (I x_notes f_Notes_seenSize) < (12 : Int32) then
    bx (I x_notes f_Notes_seenSize) 12 <|
    lb (ui I x_notes_seenHigh (Int32.toNatClampNeg (I x_notes f_Notes_seenSize)) l1) fun I5 =>
    bx (I5 x_notes f_Notes_seenSize) 12 <|
    lb (ui I5 x_notes_seenLow (Int32.toNatClampNeg (I5 x_notes f_Notes_seenSize)) l2) fun I6 =>
    bx (I6 x_notes f_Notes_seenSize) 12 <|
    lb (uj J x_notes_seenLamps (Int32.toNatClampNeg (I6 x_notes f_Notes_seenSize)) l3) fun J7 =>
    lb (ui I6 x_notes f_Notes_seenSize ((I6 x_notes f_Notes_seenSize) + (1 : Int32))) fun I8 =>
    some ((1 : Int32), I8, J7)
  else
    some ((0 : Int32), I, J)
set_option maxRecDepth 100000 in
theorem cm_X3_addSeen_25 (b : Bool) (l1 : Int32) (l2 : Int32) (l3 : Int64) (I : HI) (J : HJ) : CM mX3_addSeen 1 0 0 [.ref 25, .int l1, .int l2, .long l3] (zs b, I, J) (fI (zs b)) (F_X3_addSeen_25 l1 l2 l3 I J) := by
  refine S.of okX3_addSeen pn_X3 (Nat.le_of_ble_eq_true rfl) ?_
  refine S.sub (lv' := [(0, .ref 25), (1, .int l1), (2, .int l2), (3, .long l3)]) [0, 1, 2, 3] rfl ?_
  unfold F_X3_addSeen_25
  refine S.aload_n 0 0 rfl rfl ?_
  refine S.getI 1 rfl fo_X3_22 rfl rfl ?_
  refine S.bipush (12 : Int32) 2 rfl (by decide) ?_
  refine S.icmp_lt 11 3 rfl (by decide) (fun _ => ?_) (fun _ => ?_)
  · refine S.aload_n 6 0 rfl rfl ?_
    refine S.getR 7 rfl fo_X3_25 rfl rfl rfl ?_
    refine S.aload_n 8 0 rfl rfl ?_
    refine S.getI 9 rfl fo_X3_22 rfl rfl ?_
    refine S.iload_n 10 1 rfl rfl ?_
    refine S.iast 11 rfl rfl (fun I5 => ?_)
    refine S.aload_n 12 0 rfl rfl ?_
    refine S.getR 13 rfl fo_X3_29 rfl rfl rfl ?_
    refine S.aload_n 14 0 rfl rfl ?_
    refine S.getI 15 rfl fo_X3_22 rfl rfl ?_
    refine S.iload_n 16 2 rfl rfl ?_
    refine S.iast 17 rfl rfl (fun I6 => ?_)
    refine S.aload_n 18 0 rfl rfl ?_
    refine S.getR 19 rfl fo_X3_32 rfl rfl rfl ?_
    refine S.aload_n 20 0 rfl rfl ?_
    refine S.getI 21 rfl fo_X3_22 rfl rfl ?_
    refine S.lload_n 22 3 rfl rfl ?_
    refine S.last 23 rfl rfl (fun J7 => ?_)
    refine S.aload_n 24 0 rfl rfl ?_
    refine S.dup 25 rfl rfl ?_
    refine S.getI 26 rfl fo_X3_22 rfl rfl ?_
    refine S.iconst (1 : Int32) 27 rfl (by decide) ?_
    refine S.iadd 28 rfl ?_
    refine S.putI 29 rfl fo_X3_22 rfl rfl rfl rfl (fun _ hq => by cases hq; exact Or.inl rfl) (fun I8 => ?_)
    refine S.iconst (1 : Int32) 30 rfl (by decide) ?_
    exact S.iret 31 rfl rfl rfl (Nat.le_refl _) (Nat.le_refl _) rfl
  · refine S.iconst (0 : Int32) 4 rfl (by decide) ?_
    exact S.iret 5 rfl rfl rfl (Nat.le_refl _) (Nat.le_refl _) rfl
def F_J7_fill_53178_57_L5 (l1 : Int32) (l3 : Int32) (J : HJ) : Nat → Int32 → HI → Option (Unit × HI × HJ)
  | 0, _, _ => none
  | K+1, l2, I =>
    if l3 ≤ l2 then
      some ((), I, J)
    else
      bx l2 116 <|
      lb (ui I x_plan_sizes (Int32.toNatClampNeg l2) l1) fun I2 =>
      F_J7_fill_53178_57_L5 l1 l3 J K (l2 + 1) I2
set_option maxRecDepth 100000 in
theorem s_J7_fill_53178_57_L5 (b : Bool) (l1 : Int32) (l3 : Int32) (J : HJ) : ∀ (K : Nat) (l2 : Int32) (I : HI), S (fV (zs b)) mJ7_fill_53178 (rmd 1 0 0) 0 0 (0, 0) 5 [(0, .ref 57), (1, .int l1), (2, .int l2), (3, .int l3)] [] (zs b, I, J) (F_J7_fill_53178_57_L5 l1 l3 J K l2 I) := by
  intro K
  induction K with
  | zero => intro l2 I; exact S.none
  | succ K ih =>
    intro l2 I
    rw [F_J7_fill_53178_57_L5]
    refine S.iload_n 5 2 rfl rfl ?_
    refine S.iload_n 6 3 rfl rfl ?_
    refine S.icmp_ge 20 7 rfl (by decide) (fun _ => ?_) (fun _ => ?_)
    · exact S.vret 14 rfl rfl (Nat.le_refl _) (Nat.le_refl _) rfl
    · refine S.aload_n 8 0 rfl rfl ?_
      refine S.iload_n 9 2 rfl rfl ?_
      refine S.iload_n 10 1 rfl rfl ?_
      refine S.iast 11 rfl rfl (fun I2 => ?_)
      refine S.iinc (l2 + 1) [(2, .int (l2 + 1)), (0, .ref 57), (1, .int l1), (3, .int l3)] 12 2 rfl rfl rfl (by decide) rfl ?_
      refine S.goto 5 13 rfl (by decide) ?_
      refine S.sub (lv' := [(0, .ref 57), (1, .int l1), (2, .int (l2 + 1)), (3, .int l3)]) [1, 2, 0, 3] rfl ?_
      exact ih _ _
def F_J7_fill_53178_57 (l1 : Int32) (I : HI) (J : HJ) : Option (Unit × HI × HJ) :=
  F_J7_fill_53178_57_L5 l1 (116 : Int32) J bgf (0 : Int32) I
set_option maxRecDepth 100000 in
theorem cm_J7_fill_53178_57 (b : Bool) (l1 : Int32) (I : HI) (J : HJ) : CM mJ7_fill_53178 1 0 0 [.ref 57, .int l1] (zs b, I, J) (fV (zs b)) (F_J7_fill_53178_57 l1 I J) := by
  refine S.of okJ7_fill_53178 pn_J7 (Nat.le_of_ble_eq_true rfl) ?_
  refine S.sub (lv' := [(0, .ref 57), (1, .int l1)]) [0, 1] rfl ?_
  unfold F_J7_fill_53178_57
  refine S.iconst (0 : Int32) 0 rfl (by decide) ?_
  refine S.istore_n [(2, .int (0 : Int32)), (0, .ref 57), (1, .int l1)] 1 rfl (by decide) rfl ?_
  refine S.aload_n 2 1 rfl rfl ?_
  refine S.alen (116 : Int32) 3 rfl rfl (by decide) (by decide) (by decide) ?_
  refine S.istore_n [(3, .int (116 : Int32)), (2, .int (0 : Int32)), (0, .ref 57), (1, .int l1)] 4 rfl (by decide) rfl ?_
  refine S.sub (lv' := [(0, .ref 57), (1, .int l1), (2, .int (0 : Int32)), (3, .int (116 : Int32))]) [2, 3, 1, 0] rfl ?_
  refine s_J7_fill_53178_57_L5 b _ _ _ bgf _ _
def F_J7_fill_53178_58_L5 (l1 : Int32) (l3 : Int32) (J : HJ) : Nat → Int32 → HI → Option (Unit × HI × HJ)
  | 0, _, _ => none
  | K+1, l2, I =>
    if l3 ≤ l2 then
      some ((), I, J)
    else
      bx l2 116 <|
      lb (ui I x_plan_worst (Int32.toNatClampNeg l2) l1) fun I2 =>
      F_J7_fill_53178_58_L5 l1 l3 J K (l2 + 1) I2
set_option maxRecDepth 100000 in
theorem s_J7_fill_53178_58_L5 (b : Bool) (l1 : Int32) (l3 : Int32) (J : HJ) : ∀ (K : Nat) (l2 : Int32) (I : HI), S (fV (zs b)) mJ7_fill_53178 (rmd 1 0 0) 0 0 (0, 0) 5 [(0, .ref 58), (1, .int l1), (2, .int l2), (3, .int l3)] [] (zs b, I, J) (F_J7_fill_53178_58_L5 l1 l3 J K l2 I) := by
  intro K
  induction K with
  | zero => intro l2 I; exact S.none
  | succ K ih =>
    intro l2 I
    rw [F_J7_fill_53178_58_L5]
    refine S.iload_n 5 2 rfl rfl ?_
    refine S.iload_n 6 3 rfl rfl ?_
    refine S.icmp_ge 20 7 rfl (by decide) (fun _ => ?_) (fun _ => ?_)
    · exact S.vret 14 rfl rfl (Nat.le_refl _) (Nat.le_refl _) rfl
    · refine S.aload_n 8 0 rfl rfl ?_
      refine S.iload_n 9 2 rfl rfl ?_
      refine S.iload_n 10 1 rfl rfl ?_
      refine S.iast 11 rfl rfl (fun I2 => ?_)
      refine S.iinc (l2 + 1) [(2, .int (l2 + 1)), (0, .ref 58), (1, .int l1), (3, .int l3)] 12 2 rfl rfl rfl (by decide) rfl ?_
      refine S.goto 5 13 rfl (by decide) ?_
      refine S.sub (lv' := [(0, .ref 58), (1, .int l1), (2, .int (l2 + 1)), (3, .int l3)]) [1, 2, 0, 3] rfl ?_
      exact ih _ _
def F_J7_fill_53178_58 (l1 : Int32) (I : HI) (J : HJ) : Option (Unit × HI × HJ) :=
  F_J7_fill_53178_58_L5 l1 (116 : Int32) J bgf (0 : Int32) I
set_option maxRecDepth 100000 in
theorem cm_J7_fill_53178_58 (b : Bool) (l1 : Int32) (I : HI) (J : HJ) : CM mJ7_fill_53178 1 0 0 [.ref 58, .int l1] (zs b, I, J) (fV (zs b)) (F_J7_fill_53178_58 l1 I J) := by
  refine S.of okJ7_fill_53178 pn_J7 (Nat.le_of_ble_eq_true rfl) ?_
  refine S.sub (lv' := [(0, .ref 58), (1, .int l1)]) [0, 1] rfl ?_
  unfold F_J7_fill_53178_58
  refine S.iconst (0 : Int32) 0 rfl (by decide) ?_
  refine S.istore_n [(2, .int (0 : Int32)), (0, .ref 58), (1, .int l1)] 1 rfl (by decide) rfl ?_
  refine S.aload_n 2 1 rfl rfl ?_
  refine S.alen (116 : Int32) 3 rfl rfl (by decide) (by decide) (by decide) ?_
  refine S.istore_n [(3, .int (116 : Int32)), (2, .int (0 : Int32)), (0, .ref 58), (1, .int l1)] 4 rfl (by decide) rfl ?_
  refine S.sub (lv' := [(0, .ref 58), (1, .int l1), (2, .int (0 : Int32)), (3, .int (116 : Int32))]) [2, 3, 1, 0] rfl ?_
  refine s_J7_fill_53178_58_L5 b _ _ _ bgf _ _
def F_X3_copyFrom_76_25  (I : HI) (J : HJ) : Option (Unit × HI × HJ) :=
  lb (ui I x_kept_1_notes f_Notes_high (I x_notes f_Notes_high)) fun I8 =>
  lb (ui I8 x_kept_1_notes f_Notes_low (I8 x_notes f_Notes_low)) fun I9 =>
  lb (ui I9 x_kept_1_notes f_Notes_seenSize (I9 x_notes f_Notes_seenSize)) fun I10 =>
  if (0 : Int32) < 0 ∨ (0 : Int32) < 0 ∨ (4 : Int32) < 0 ∨ 4 < Int32.toNatClampNeg (0 : Int32) + Int32.toNatClampNeg (4 : Int32) ∨ 4 < Int32.toNatClampNeg (0 : Int32) + Int32.toNatClampNeg (4 : Int32) then none else
  lb (ufj J x_kept_1_notes_pictures (va_cpy (J x_notes_pictures) (J x_kept_1_notes_pictures) (Int32.toNatClampNeg (0 : Int32)) (Int32.toNatClampNeg (0 : Int32)) (Int32.toNatClampNeg (4 : Int32)))) fun J11 =>
  if (0 : Int32) < 0 ∨ (0 : Int32) < 0 ∨ (12 : Int32) < 0 ∨ 12 < Int32.toNatClampNeg (0 : Int32) + Int32.toNatClampNeg (12 : Int32) ∨ 12 < Int32.toNatClampNeg (0 : Int32) + Int32.toNatClampNeg (12 : Int32) then none else
  lb (uf I10 x_kept_1_notes_seenHigh (va_cpy (I10 x_notes_seenHigh) (I10 x_kept_1_notes_seenHigh) (Int32.toNatClampNeg (0 : Int32)) (Int32.toNatClampNeg (0 : Int32)) (Int32.toNatClampNeg (12 : Int32)))) fun I12 =>
  if (0 : Int32) < 0 ∨ (0 : Int32) < 0 ∨ (12 : Int32) < 0 ∨ 12 < Int32.toNatClampNeg (0 : Int32) + Int32.toNatClampNeg (12 : Int32) ∨ 12 < Int32.toNatClampNeg (0 : Int32) + Int32.toNatClampNeg (12 : Int32) then none else
  lb (uf I12 x_kept_1_notes_seenLow (va_cpy (I12 x_notes_seenLow) (I12 x_kept_1_notes_seenLow) (Int32.toNatClampNeg (0 : Int32)) (Int32.toNatClampNeg (0 : Int32)) (Int32.toNatClampNeg (12 : Int32)))) fun I13 =>
  if (0 : Int32) < 0 ∨ (0 : Int32) < 0 ∨ (12 : Int32) < 0 ∨ 12 < Int32.toNatClampNeg (0 : Int32) + Int32.toNatClampNeg (12 : Int32) ∨ 12 < Int32.toNatClampNeg (0 : Int32) + Int32.toNatClampNeg (12 : Int32) then none else
  lb (ufj J11 x_kept_1_notes_seenLamps (va_cpy (J11 x_notes_seenLamps) (J11 x_kept_1_notes_seenLamps) (Int32.toNatClampNeg (0 : Int32)) (Int32.toNatClampNeg (0 : Int32)) (Int32.toNatClampNeg (12 : Int32)))) fun J14 =>
  some ((), I13, J14)
set_option maxRecDepth 100000 in
theorem cm_X3_copyFrom_76_25 (b : Bool)  (I : HI) (J : HJ) : CM mX3_copyFrom 1 0 0 [.ref 76, .ref 25] (zs b, I, J) (fV (zs b)) (F_X3_copyFrom_76_25  I J) := by
  refine S.of okX3_copyFrom pn_X3 (Nat.le_of_ble_eq_true rfl) ?_
  refine S.sub (lv' := [(0, .ref 76), (1, .ref 25)]) [0, 1] rfl ?_
  unfold F_X3_copyFrom_76_25
  refine S.aload_n 0 0 rfl rfl ?_
  refine S.aload_n 1 1 rfl rfl ?_
  refine S.getI 2 rfl fo_X3_9 rfl rfl ?_
  refine S.putI 3 rfl fo_X3_9 rfl rfl rfl rfl (fun _ hq => by cases hq; exact Or.inl rfl) (fun I8 => ?_)
  refine S.aload_n 4 0 rfl rfl ?_
  refine S.aload_n 5 1 rfl rfl ?_
  refine S.getI 6 rfl fo_X3_15 rfl rfl ?_
  refine S.putI 7 rfl fo_X3_15 rfl rfl rfl rfl (fun _ hq => by cases hq; exact Or.inl rfl) (fun I9 => ?_)
  refine S.aload_n 8 0 rfl rfl ?_
  refine S.aload_n 9 1 rfl rfl ?_
  refine S.getI 10 rfl fo_X3_22 rfl rfl ?_
  refine S.putI 11 rfl fo_X3_22 rfl rfl rfl rfl (fun _ hq => by cases hq; exact Or.inl rfl) (fun I10 => ?_)
  refine S.aload_n 12 1 rfl rfl ?_
  refine S.getR 13 rfl fo_X3_18 rfl rfl rfl ?_
  refine S.iconst (0 : Int32) 14 rfl (by decide) ?_
  refine S.aload_n 15 0 rfl rfl ?_
  refine S.getR 16 rfl fo_X3_18 rfl rfl rfl ?_
  refine S.iconst (0 : Int32) 17 rfl (by decide) ?_
  refine S.iconst (4 : Int32) 18 rfl (by decide) ?_
  refine S.copyl 19 rfl co_X3_41 w_ac1 w_ac2 w_ac3 rfl rfl (Nat.le_of_ble_eq_true rfl) (Nat.le_of_ble_eq_true rfl) (Nat.le_of_ble_eq_true rfl) (fun J11 => ?_)
  refine S.aload_n 20 1 rfl rfl ?_
  refine S.getR 21 rfl fo_X3_25 rfl rfl rfl ?_
  refine S.iconst (0 : Int32) 22 rfl (by decide) ?_
  refine S.aload_n 23 0 rfl rfl ?_
  refine S.getR 24 rfl fo_X3_25 rfl rfl rfl ?_
  refine S.iconst (0 : Int32) 25 rfl (by decide) ?_
  refine S.bipush (12 : Int32) 26 rfl (by decide) ?_
  refine S.copyi 27 rfl co_X3_41 w_ac1 w_ac2 w_ac3 rfl rfl (Nat.le_of_ble_eq_true rfl) (Nat.le_of_ble_eq_true rfl) (Nat.le_of_ble_eq_true rfl) (fun I12 => ?_)
  refine S.aload_n 28 1 rfl rfl ?_
  refine S.getR 29 rfl fo_X3_29 rfl rfl rfl ?_
  refine S.iconst (0 : Int32) 30 rfl (by decide) ?_
  refine S.aload_n 31 0 rfl rfl ?_
  refine S.getR 32 rfl fo_X3_29 rfl rfl rfl ?_
  refine S.iconst (0 : Int32) 33 rfl (by decide) ?_
  refine S.bipush (12 : Int32) 34 rfl (by decide) ?_
  refine S.copyi 35 rfl co_X3_41 w_ac1 w_ac2 w_ac3 rfl rfl (Nat.le_of_ble_eq_true rfl) (Nat.le_of_ble_eq_true rfl) (Nat.le_of_ble_eq_true rfl) (fun I13 => ?_)
  refine S.aload_n 36 1 rfl rfl ?_
  refine S.getR 37 rfl fo_X3_32 rfl rfl rfl ?_
  refine S.iconst (0 : Int32) 38 rfl (by decide) ?_
  refine S.aload_n 39 0 rfl rfl ?_
  refine S.getR 40 rfl fo_X3_32 rfl rfl rfl ?_
  refine S.iconst (0 : Int32) 41 rfl (by decide) ?_
  refine S.bipush (12 : Int32) 42 rfl (by decide) ?_
  refine S.copyl 43 rfl co_X3_41 w_ac1 w_ac2 w_ac3 rfl rfl (Nat.le_of_ble_eq_true rfl) (Nat.le_of_ble_eq_true rfl) (Nat.le_of_ble_eq_true rfl) (fun J14 => ?_)
  exact S.vret 44 rfl rfl (Nat.le_refl _) (Nat.le_refl _) rfl
def F_X3_copyFrom_67_25  (I : HI) (J : HJ) : Option (Unit × HI × HJ) :=
  lb (ui I x_kept_0_notes f_Notes_high (I x_notes f_Notes_high)) fun I8 =>
  lb (ui I8 x_kept_0_notes f_Notes_low (I8 x_notes f_Notes_low)) fun I9 =>
  lb (ui I9 x_kept_0_notes f_Notes_seenSize (I9 x_notes f_Notes_seenSize)) fun I10 =>
  if (0 : Int32) < 0 ∨ (0 : Int32) < 0 ∨ (4 : Int32) < 0 ∨ 4 < Int32.toNatClampNeg (0 : Int32) + Int32.toNatClampNeg (4 : Int32) ∨ 4 < Int32.toNatClampNeg (0 : Int32) + Int32.toNatClampNeg (4 : Int32) then none else
  lb (ufj J x_kept_0_notes_pictures (va_cpy (J x_notes_pictures) (J x_kept_0_notes_pictures) (Int32.toNatClampNeg (0 : Int32)) (Int32.toNatClampNeg (0 : Int32)) (Int32.toNatClampNeg (4 : Int32)))) fun J11 =>
  if (0 : Int32) < 0 ∨ (0 : Int32) < 0 ∨ (12 : Int32) < 0 ∨ 12 < Int32.toNatClampNeg (0 : Int32) + Int32.toNatClampNeg (12 : Int32) ∨ 12 < Int32.toNatClampNeg (0 : Int32) + Int32.toNatClampNeg (12 : Int32) then none else
  lb (uf I10 x_kept_0_notes_seenHigh (va_cpy (I10 x_notes_seenHigh) (I10 x_kept_0_notes_seenHigh) (Int32.toNatClampNeg (0 : Int32)) (Int32.toNatClampNeg (0 : Int32)) (Int32.toNatClampNeg (12 : Int32)))) fun I12 =>
  if (0 : Int32) < 0 ∨ (0 : Int32) < 0 ∨ (12 : Int32) < 0 ∨ 12 < Int32.toNatClampNeg (0 : Int32) + Int32.toNatClampNeg (12 : Int32) ∨ 12 < Int32.toNatClampNeg (0 : Int32) + Int32.toNatClampNeg (12 : Int32) then none else
  lb (uf I12 x_kept_0_notes_seenLow (va_cpy (I12 x_notes_seenLow) (I12 x_kept_0_notes_seenLow) (Int32.toNatClampNeg (0 : Int32)) (Int32.toNatClampNeg (0 : Int32)) (Int32.toNatClampNeg (12 : Int32)))) fun I13 =>
  if (0 : Int32) < 0 ∨ (0 : Int32) < 0 ∨ (12 : Int32) < 0 ∨ 12 < Int32.toNatClampNeg (0 : Int32) + Int32.toNatClampNeg (12 : Int32) ∨ 12 < Int32.toNatClampNeg (0 : Int32) + Int32.toNatClampNeg (12 : Int32) then none else
  lb (ufj J11 x_kept_0_notes_seenLamps (va_cpy (J11 x_notes_seenLamps) (J11 x_kept_0_notes_seenLamps) (Int32.toNatClampNeg (0 : Int32)) (Int32.toNatClampNeg (0 : Int32)) (Int32.toNatClampNeg (12 : Int32)))) fun J14 =>
  some ((), I13, J14)
set_option maxRecDepth 100000 in
theorem cm_X3_copyFrom_67_25 (b : Bool)  (I : HI) (J : HJ) : CM mX3_copyFrom 1 0 0 [.ref 67, .ref 25] (zs b, I, J) (fV (zs b)) (F_X3_copyFrom_67_25  I J) := by
  refine S.of okX3_copyFrom pn_X3 (Nat.le_of_ble_eq_true rfl) ?_
  refine S.sub (lv' := [(0, .ref 67), (1, .ref 25)]) [0, 1] rfl ?_
  unfold F_X3_copyFrom_67_25
  refine S.aload_n 0 0 rfl rfl ?_
  refine S.aload_n 1 1 rfl rfl ?_
  refine S.getI 2 rfl fo_X3_9 rfl rfl ?_
  refine S.putI 3 rfl fo_X3_9 rfl rfl rfl rfl (fun _ hq => by cases hq; exact Or.inl rfl) (fun I8 => ?_)
  refine S.aload_n 4 0 rfl rfl ?_
  refine S.aload_n 5 1 rfl rfl ?_
  refine S.getI 6 rfl fo_X3_15 rfl rfl ?_
  refine S.putI 7 rfl fo_X3_15 rfl rfl rfl rfl (fun _ hq => by cases hq; exact Or.inl rfl) (fun I9 => ?_)
  refine S.aload_n 8 0 rfl rfl ?_
  refine S.aload_n 9 1 rfl rfl ?_
  refine S.getI 10 rfl fo_X3_22 rfl rfl ?_
  refine S.putI 11 rfl fo_X3_22 rfl rfl rfl rfl (fun _ hq => by cases hq; exact Or.inl rfl) (fun I10 => ?_)
  refine S.aload_n 12 1 rfl rfl ?_
  refine S.getR 13 rfl fo_X3_18 rfl rfl rfl ?_
  refine S.iconst (0 : Int32) 14 rfl (by decide) ?_
  refine S.aload_n 15 0 rfl rfl ?_
  refine S.getR 16 rfl fo_X3_18 rfl rfl rfl ?_
  refine S.iconst (0 : Int32) 17 rfl (by decide) ?_
  refine S.iconst (4 : Int32) 18 rfl (by decide) ?_
  refine S.copyl 19 rfl co_X3_41 w_ac1 w_ac2 w_ac3 rfl rfl (Nat.le_of_ble_eq_true rfl) (Nat.le_of_ble_eq_true rfl) (Nat.le_of_ble_eq_true rfl) (fun J11 => ?_)
  refine S.aload_n 20 1 rfl rfl ?_
  refine S.getR 21 rfl fo_X3_25 rfl rfl rfl ?_
  refine S.iconst (0 : Int32) 22 rfl (by decide) ?_
  refine S.aload_n 23 0 rfl rfl ?_
  refine S.getR 24 rfl fo_X3_25 rfl rfl rfl ?_
  refine S.iconst (0 : Int32) 25 rfl (by decide) ?_
  refine S.bipush (12 : Int32) 26 rfl (by decide) ?_
  refine S.copyi 27 rfl co_X3_41 w_ac1 w_ac2 w_ac3 rfl rfl (Nat.le_of_ble_eq_true rfl) (Nat.le_of_ble_eq_true rfl) (Nat.le_of_ble_eq_true rfl) (fun I12 => ?_)
  refine S.aload_n 28 1 rfl rfl ?_
  refine S.getR 29 rfl fo_X3_29 rfl rfl rfl ?_
  refine S.iconst (0 : Int32) 30 rfl (by decide) ?_
  refine S.aload_n 31 0 rfl rfl ?_
  refine S.getR 32 rfl fo_X3_29 rfl rfl rfl ?_
  refine S.iconst (0 : Int32) 33 rfl (by decide) ?_
  refine S.bipush (12 : Int32) 34 rfl (by decide) ?_
  refine S.copyi 35 rfl co_X3_41 w_ac1 w_ac2 w_ac3 rfl rfl (Nat.le_of_ble_eq_true rfl) (Nat.le_of_ble_eq_true rfl) (Nat.le_of_ble_eq_true rfl) (fun I13 => ?_)
  refine S.aload_n 36 1 rfl rfl ?_
  refine S.getR 37 rfl fo_X3_32 rfl rfl rfl ?_
  refine S.iconst (0 : Int32) 38 rfl (by decide) ?_
  refine S.aload_n 39 0 rfl rfl ?_
  refine S.getR 40 rfl fo_X3_32 rfl rfl rfl ?_
  refine S.iconst (0 : Int32) 41 rfl (by decide) ?_
  refine S.bipush (12 : Int32) 42 rfl (by decide) ?_
  refine S.copyl 43 rfl co_X3_41 w_ac1 w_ac2 w_ac3 rfl rfl (Nat.le_of_ble_eq_true rfl) (Nat.le_of_ble_eq_true rfl) (Nat.le_of_ble_eq_true rfl) (fun J14 => ?_)
  exact S.vret 44 rfl rfl (Nat.le_refl _) (Nat.le_refl _) rfl
def F_X3_copyFrom_25_76  (I : HI) (J : HJ) : Option (Unit × HI × HJ) :=
  lb (ui I x_notes f_Notes_high (I x_kept_1_notes f_Notes_high)) fun I8 =>
  lb (ui I8 x_notes f_Notes_low (I8 x_kept_1_notes f_Notes_low)) fun I9 =>
  lb (ui I9 x_notes f_Notes_seenSize (I9 x_kept_1_notes f_Notes_seenSize)) fun I10 =>
  if (0 : Int32) < 0 ∨ (0 : Int32) < 0 ∨ (4 : Int32) < 0 ∨ 4 < Int32.toNatClampNeg (0 : Int32) + Int32.toNatClampNeg (4 : Int32) ∨ 4 < Int32.toNatClampNeg (0 : Int32) + Int32.toNatClampNeg (4 : Int32) then none else
  lb (ufj J x_notes_pictures (va_cpy (J x_kept_1_notes_pictures) (J x_notes_pictures) (Int32.toNatClampNeg (0 : Int32)) (Int32.toNatClampNeg (0 : Int32)) (Int32.toNatClampNeg (4 : Int32)))) fun J11 =>
  if (0 : Int32) < 0 ∨ (0 : Int32) < 0 ∨ (12 : Int32) < 0 ∨ 12 < Int32.toNatClampNeg (0 : Int32) + Int32.toNatClampNeg (12 : Int32) ∨ 12 < Int32.toNatClampNeg (0 : Int32) + Int32.toNatClampNeg (12 : Int32) then none else
  lb (uf I10 x_notes_seenHigh (va_cpy (I10 x_kept_1_notes_seenHigh) (I10 x_notes_seenHigh) (Int32.toNatClampNeg (0 : Int32)) (Int32.toNatClampNeg (0 : Int32)) (Int32.toNatClampNeg (12 : Int32)))) fun I12 =>
  if (0 : Int32) < 0 ∨ (0 : Int32) < 0 ∨ (12 : Int32) < 0 ∨ 12 < Int32.toNatClampNeg (0 : Int32) + Int32.toNatClampNeg (12 : Int32) ∨ 12 < Int32.toNatClampNeg (0 : Int32) + Int32.toNatClampNeg (12 : Int32) then none else
  lb (uf I12 x_notes_seenLow (va_cpy (I12 x_kept_1_notes_seenLow) (I12 x_notes_seenLow) (Int32.toNatClampNeg (0 : Int32)) (Int32.toNatClampNeg (0 : Int32)) (Int32.toNatClampNeg (12 : Int32)))) fun I13 =>
  if (0 : Int32) < 0 ∨ (0 : Int32) < 0 ∨ (12 : Int32) < 0 ∨ 12 < Int32.toNatClampNeg (0 : Int32) + Int32.toNatClampNeg (12 : Int32) ∨ 12 < Int32.toNatClampNeg (0 : Int32) + Int32.toNatClampNeg (12 : Int32) then none else
  lb (ufj J11 x_notes_seenLamps (va_cpy (J11 x_kept_1_notes_seenLamps) (J11 x_notes_seenLamps) (Int32.toNatClampNeg (0 : Int32)) (Int32.toNatClampNeg (0 : Int32)) (Int32.toNatClampNeg (12 : Int32)))) fun J14 =>
  some ((), I13, J14)
set_option maxRecDepth 100000 in
theorem cm_X3_copyFrom_25_76 (b : Bool)  (I : HI) (J : HJ) : CM mX3_copyFrom 1 0 0 [.ref 25, .ref 76] (zs b, I, J) (fV (zs b)) (F_X3_copyFrom_25_76  I J) := by
  refine S.of okX3_copyFrom pn_X3 (Nat.le_of_ble_eq_true rfl) ?_
  refine S.sub (lv' := [(0, .ref 25), (1, .ref 76)]) [0, 1] rfl ?_
  unfold F_X3_copyFrom_25_76
  refine S.aload_n 0 0 rfl rfl ?_
  refine S.aload_n 1 1 rfl rfl ?_
  refine S.getI 2 rfl fo_X3_9 rfl rfl ?_
  refine S.putI 3 rfl fo_X3_9 rfl rfl rfl rfl (fun _ hq => by cases hq; exact Or.inl rfl) (fun I8 => ?_)
  refine S.aload_n 4 0 rfl rfl ?_
  refine S.aload_n 5 1 rfl rfl ?_
  refine S.getI 6 rfl fo_X3_15 rfl rfl ?_
  refine S.putI 7 rfl fo_X3_15 rfl rfl rfl rfl (fun _ hq => by cases hq; exact Or.inl rfl) (fun I9 => ?_)
  refine S.aload_n 8 0 rfl rfl ?_
  refine S.aload_n 9 1 rfl rfl ?_
  refine S.getI 10 rfl fo_X3_22 rfl rfl ?_
  refine S.putI 11 rfl fo_X3_22 rfl rfl rfl rfl (fun _ hq => by cases hq; exact Or.inl rfl) (fun I10 => ?_)
  refine S.aload_n 12 1 rfl rfl ?_
  refine S.getR 13 rfl fo_X3_18 rfl rfl rfl ?_
  refine S.iconst (0 : Int32) 14 rfl (by decide) ?_
  refine S.aload_n 15 0 rfl rfl ?_
  refine S.getR 16 rfl fo_X3_18 rfl rfl rfl ?_
  refine S.iconst (0 : Int32) 17 rfl (by decide) ?_
  refine S.iconst (4 : Int32) 18 rfl (by decide) ?_
  refine S.copyl 19 rfl co_X3_41 w_ac1 w_ac2 w_ac3 rfl rfl (Nat.le_of_ble_eq_true rfl) (Nat.le_of_ble_eq_true rfl) (Nat.le_of_ble_eq_true rfl) (fun J11 => ?_)
  refine S.aload_n 20 1 rfl rfl ?_
  refine S.getR 21 rfl fo_X3_25 rfl rfl rfl ?_
  refine S.iconst (0 : Int32) 22 rfl (by decide) ?_
  refine S.aload_n 23 0 rfl rfl ?_
  refine S.getR 24 rfl fo_X3_25 rfl rfl rfl ?_
  refine S.iconst (0 : Int32) 25 rfl (by decide) ?_
  refine S.bipush (12 : Int32) 26 rfl (by decide) ?_
  refine S.copyi 27 rfl co_X3_41 w_ac1 w_ac2 w_ac3 rfl rfl (Nat.le_of_ble_eq_true rfl) (Nat.le_of_ble_eq_true rfl) (Nat.le_of_ble_eq_true rfl) (fun I12 => ?_)
  refine S.aload_n 28 1 rfl rfl ?_
  refine S.getR 29 rfl fo_X3_29 rfl rfl rfl ?_
  refine S.iconst (0 : Int32) 30 rfl (by decide) ?_
  refine S.aload_n 31 0 rfl rfl ?_
  refine S.getR 32 rfl fo_X3_29 rfl rfl rfl ?_
  refine S.iconst (0 : Int32) 33 rfl (by decide) ?_
  refine S.bipush (12 : Int32) 34 rfl (by decide) ?_
  refine S.copyi 35 rfl co_X3_41 w_ac1 w_ac2 w_ac3 rfl rfl (Nat.le_of_ble_eq_true rfl) (Nat.le_of_ble_eq_true rfl) (Nat.le_of_ble_eq_true rfl) (fun I13 => ?_)
  refine S.aload_n 36 1 rfl rfl ?_
  refine S.getR 37 rfl fo_X3_32 rfl rfl rfl ?_
  refine S.iconst (0 : Int32) 38 rfl (by decide) ?_
  refine S.aload_n 39 0 rfl rfl ?_
  refine S.getR 40 rfl fo_X3_32 rfl rfl rfl ?_
  refine S.iconst (0 : Int32) 41 rfl (by decide) ?_
  refine S.bipush (12 : Int32) 42 rfl (by decide) ?_
  refine S.copyl 43 rfl co_X3_41 w_ac1 w_ac2 w_ac3 rfl rfl (Nat.le_of_ble_eq_true rfl) (Nat.le_of_ble_eq_true rfl) (Nat.le_of_ble_eq_true rfl) (fun J14 => ?_)
  exact S.vret 44 rfl rfl (Nat.le_refl _) (Nat.le_refl _) rfl
def F_X3_copyFrom_25_67  (I : HI) (J : HJ) : Option (Unit × HI × HJ) :=
  lb (ui I x_notes f_Notes_high (I x_kept_0_notes f_Notes_high)) fun I8 =>
  lb (ui I8 x_notes f_Notes_low (I8 x_kept_0_notes f_Notes_low)) fun I9 =>
  lb (ui I9 x_notes f_Notes_seenSize (I9 x_kept_0_notes f_Notes_seenSize)) fun I10 =>
  if (0 : Int32) < 0 ∨ (0 : Int32) < 0 ∨ (4 : Int32) < 0 ∨ 4 < Int32.toNatClampNeg (0 : Int32) + Int32.toNatClampNeg (4 : Int32) ∨ 4 < Int32.toNatClampNeg (0 : Int32) + Int32.toNatClampNeg (4 : Int32) then none else
  lb (ufj J x_notes_pictures (va_cpy (J x_kept_0_notes_pictures) (J x_notes_pictures) (Int32.toNatClampNeg (0 : Int32)) (Int32.toNatClampNeg (0 : Int32)) (Int32.toNatClampNeg (4 : Int32)))) fun J11 =>
  if (0 : Int32) < 0 ∨ (0 : Int32) < 0 ∨ (12 : Int32) < 0 ∨ 12 < Int32.toNatClampNeg (0 : Int32) + Int32.toNatClampNeg (12 : Int32) ∨ 12 < Int32.toNatClampNeg (0 : Int32) + Int32.toNatClampNeg (12 : Int32) then none else
  lb (uf I10 x_notes_seenHigh (va_cpy (I10 x_kept_0_notes_seenHigh) (I10 x_notes_seenHigh) (Int32.toNatClampNeg (0 : Int32)) (Int32.toNatClampNeg (0 : Int32)) (Int32.toNatClampNeg (12 : Int32)))) fun I12 =>
  if (0 : Int32) < 0 ∨ (0 : Int32) < 0 ∨ (12 : Int32) < 0 ∨ 12 < Int32.toNatClampNeg (0 : Int32) + Int32.toNatClampNeg (12 : Int32) ∨ 12 < Int32.toNatClampNeg (0 : Int32) + Int32.toNatClampNeg (12 : Int32) then none else
  lb (uf I12 x_notes_seenLow (va_cpy (I12 x_kept_0_notes_seenLow) (I12 x_notes_seenLow) (Int32.toNatClampNeg (0 : Int32)) (Int32.toNatClampNeg (0 : Int32)) (Int32.toNatClampNeg (12 : Int32)))) fun I13 =>
  if (0 : Int32) < 0 ∨ (0 : Int32) < 0 ∨ (12 : Int32) < 0 ∨ 12 < Int32.toNatClampNeg (0 : Int32) + Int32.toNatClampNeg (12 : Int32) ∨ 12 < Int32.toNatClampNeg (0 : Int32) + Int32.toNatClampNeg (12 : Int32) then none else
  lb (ufj J11 x_notes_seenLamps (va_cpy (J11 x_kept_0_notes_seenLamps) (J11 x_notes_seenLamps) (Int32.toNatClampNeg (0 : Int32)) (Int32.toNatClampNeg (0 : Int32)) (Int32.toNatClampNeg (12 : Int32)))) fun J14 =>
  some ((), I13, J14)
set_option maxRecDepth 100000 in
theorem cm_X3_copyFrom_25_67 (b : Bool)  (I : HI) (J : HJ) : CM mX3_copyFrom 1 0 0 [.ref 25, .ref 67] (zs b, I, J) (fV (zs b)) (F_X3_copyFrom_25_67  I J) := by
  refine S.of okX3_copyFrom pn_X3 (Nat.le_of_ble_eq_true rfl) ?_
  refine S.sub (lv' := [(0, .ref 25), (1, .ref 67)]) [0, 1] rfl ?_
  unfold F_X3_copyFrom_25_67
  refine S.aload_n 0 0 rfl rfl ?_
  refine S.aload_n 1 1 rfl rfl ?_
  refine S.getI 2 rfl fo_X3_9 rfl rfl ?_
  refine S.putI 3 rfl fo_X3_9 rfl rfl rfl rfl (fun _ hq => by cases hq; exact Or.inl rfl) (fun I8 => ?_)
  refine S.aload_n 4 0 rfl rfl ?_
  refine S.aload_n 5 1 rfl rfl ?_
  refine S.getI 6 rfl fo_X3_15 rfl rfl ?_
  refine S.putI 7 rfl fo_X3_15 rfl rfl rfl rfl (fun _ hq => by cases hq; exact Or.inl rfl) (fun I9 => ?_)
  refine S.aload_n 8 0 rfl rfl ?_
  refine S.aload_n 9 1 rfl rfl ?_
  refine S.getI 10 rfl fo_X3_22 rfl rfl ?_
  refine S.putI 11 rfl fo_X3_22 rfl rfl rfl rfl (fun _ hq => by cases hq; exact Or.inl rfl) (fun I10 => ?_)
  refine S.aload_n 12 1 rfl rfl ?_
  refine S.getR 13 rfl fo_X3_18 rfl rfl rfl ?_
  refine S.iconst (0 : Int32) 14 rfl (by decide) ?_
  refine S.aload_n 15 0 rfl rfl ?_
  refine S.getR 16 rfl fo_X3_18 rfl rfl rfl ?_
  refine S.iconst (0 : Int32) 17 rfl (by decide) ?_
  refine S.iconst (4 : Int32) 18 rfl (by decide) ?_
  refine S.copyl 19 rfl co_X3_41 w_ac1 w_ac2 w_ac3 rfl rfl (Nat.le_of_ble_eq_true rfl) (Nat.le_of_ble_eq_true rfl) (Nat.le_of_ble_eq_true rfl) (fun J11 => ?_)
  refine S.aload_n 20 1 rfl rfl ?_
  refine S.getR 21 rfl fo_X3_25 rfl rfl rfl ?_
  refine S.iconst (0 : Int32) 22 rfl (by decide) ?_
  refine S.aload_n 23 0 rfl rfl ?_
  refine S.getR 24 rfl fo_X3_25 rfl rfl rfl ?_
  refine S.iconst (0 : Int32) 25 rfl (by decide) ?_
  refine S.bipush (12 : Int32) 26 rfl (by decide) ?_
  refine S.copyi 27 rfl co_X3_41 w_ac1 w_ac2 w_ac3 rfl rfl (Nat.le_of_ble_eq_true rfl) (Nat.le_of_ble_eq_true rfl) (Nat.le_of_ble_eq_true rfl) (fun I12 => ?_)
  refine S.aload_n 28 1 rfl rfl ?_
  refine S.getR 29 rfl fo_X3_29 rfl rfl rfl ?_
  refine S.iconst (0 : Int32) 30 rfl (by decide) ?_
  refine S.aload_n 31 0 rfl rfl ?_
  refine S.getR 32 rfl fo_X3_29 rfl rfl rfl ?_
  refine S.iconst (0 : Int32) 33 rfl (by decide) ?_
  refine S.bipush (12 : Int32) 34 rfl (by decide) ?_
  refine S.copyi 35 rfl co_X3_41 w_ac1 w_ac2 w_ac3 rfl rfl (Nat.le_of_ble_eq_true rfl) (Nat.le_of_ble_eq_true rfl) (Nat.le_of_ble_eq_true rfl) (fun I13 => ?_)
  refine S.aload_n 36 1 rfl rfl ?_
  refine S.getR 37 rfl fo_X3_32 rfl rfl rfl ?_
  refine S.iconst (0 : Int32) 38 rfl (by decide) ?_
  refine S.aload_n 39 0 rfl rfl ?_
  refine S.getR 40 rfl fo_X3_32 rfl rfl rfl ?_
  refine S.iconst (0 : Int32) 41 rfl (by decide) ?_
  refine S.bipush (12 : Int32) 42 rfl (by decide) ?_
  refine S.copyl 43 rfl co_X3_41 w_ac1 w_ac2 w_ac3 rfl rfl (Nat.le_of_ble_eq_true rfl) (Nat.le_of_ble_eq_true rfl) (Nat.le_of_ble_eq_true rfl) (fun J14 => ?_)
  exact S.vret 44 rfl rfl (Nat.le_refl _) (Nat.le_refl _) rfl

/-! computations and their proofs: X6 -/
def F_X6_isAt (l1 : Int32) (I : HI) (J : HJ) : Option Int32 :=
  if (I x_reader f_Reader_limit) ≤ (I x_reader f_Reader_at) then
    some (0 : Int32)
  else
    bx (I x_reader f_Reader_at) 80 <|
    if (I x_text_signs (Int32.toNatClampNeg (I x_reader f_Reader_at))) = l1 then
      some (1 : Int32)
    else
      some (0 : Int32)
set_option maxRecDepth 100000 in
theorem cm_X6_isAt (b : Bool) (l1 : Int32) (I : HI) (J : HJ) : CM mX6_isAt 1 0 0 [.ref 10, .int l1] (zs b, I, J) (pI (zs b, I, J)) (F_X6_isAt l1 I J) := by
  refine S.of okX6_isAt pn_X6 (Nat.le_of_ble_eq_true rfl) ?_
  refine S.sub (lv' := [(0, .ref 10), (1, .int l1)]) [0, 1] rfl ?_
  unfold F_X6_isAt
  refine S.aload_n 0 0 rfl rfl ?_
  refine S.getI 1 rfl fo_X6_38 rfl rfl ?_
  refine S.aload_n 2 0 rfl rfl ?_
  refine S.getI 3 rfl fo_X6_55 rfl rfl ?_
  refine S.icmp_ge 31 4 rfl (by decide) (fun _ => ?_) (fun _ => ?_)
  · refine S.iconst (0 : Int32) 15 rfl (by decide) ?_
    exact S.iret 16 rfl rfl rfl (Nat.le_refl _) (Nat.le_refl _) rfl
  · refine S.aload_n 5 0 rfl rfl ?_
    refine S.getR 6 rfl fo_X6_24 rfl rfl rfl ?_
    refine S.getR 7 rfl fo_X6_96 rfl rfl rfl ?_
    refine S.aload_n 8 0 rfl rfl ?_
    refine S.getI 9 rfl fo_X6_38 rfl rfl ?_
    refine S.cald 10 rfl rfl ?_
    refine S.iload_n 11 1 rfl rfl ?_
    refine S.icmp_ne 31 12 rfl (by decide) (fun _ => ?_) (fun _ => ?_)
    · refine S.iconst (0 : Int32) 15 rfl (by decide) ?_
      exact S.iret 16 rfl rfl rfl (Nat.le_refl _) (Nat.le_refl _) rfl
    · refine S.iconst (1 : Int32) 13 rfl (by decide) ?_
      refine S.goto 32 14 rfl (by decide) ?_
      exact S.iret 16 rfl rfl rfl (Nat.le_refl _) (Nat.le_refl _) rfl
def F_X6_isDigit  (I : HI) (J : HJ) : Option Int32 :=
  if (I x_reader f_Reader_limit) ≤ (I x_reader f_Reader_at) then
    some (0 : Int32)
  else
    bx (I x_reader f_Reader_at) 80 <|
    if (I x_text_signs (Int32.toNatClampNeg (I x_reader f_Reader_at))) < (48 : Int32) then
      some (0 : Int32)
    else
      bx (I x_reader f_Reader_at) 80 <|
      if (57 : Int32) < (I x_text_signs (Int32.toNatClampNeg (I x_reader f_Reader_at))) then
        some (0 : Int32)
      else
        some (1 : Int32)
set_option maxRecDepth 100000 in
theorem cm_X6_isDigit (b : Bool)  (I : HI) (J : HJ) : CM mX6_isDigit 1 0 0 [.ref 10] (zs b, I, J) (pI (zs b, I, J)) (F_X6_isDigit  I J) := by
  refine S.of okX6_isDigit pn_X6 (Nat.le_of_ble_eq_true rfl) ?_
  refine S.sub (lv' := [(0, .ref 10)]) [0] rfl ?_
  unfold F_X6_isDigit
  refine S.aload_n 0 0 rfl rfl ?_
  refine S.getI 1 rfl fo_X6_38 rfl rfl ?_
  refine S.aload_n 2 0 rfl rfl ?_
  refine S.getI 3 rfl fo_X6_55 rfl rfl ?_
  refine S.icmp_ge 49 4 rfl (by decide) (fun _ => ?_) (fun _ => ?_)
  · refine S.iconst (0 : Int32) 23 rfl (by decide) ?_
    exact S.iret 24 rfl rfl rfl (Nat.le_refl _) (Nat.le_refl _) rfl
  · refine S.aload_n 5 0 rfl rfl ?_
    refine S.getR 6 rfl fo_X6_24 rfl rfl rfl ?_
    refine S.getR 7 rfl fo_X6_96 rfl rfl rfl ?_
    refine S.aload_n 8 0 rfl rfl ?_
    refine S.getI 9 rfl fo_X6_38 rfl rfl ?_
    refine S.cald 10 rfl rfl ?_
    refine S.bipush (48 : Int32) 11 rfl (by decide) ?_
    refine S.icmp_lt 49 12 rfl (by decide) (fun _ => ?_) (fun _ => ?_)
    · refine S.iconst (0 : Int32) 23 rfl (by decide) ?_
      exact S.iret 24 rfl rfl rfl (Nat.le_refl _) (Nat.le_refl _) rfl
    · refine S.aload_n 13 0 rfl rfl ?_
      refine S.getR 14 rfl fo_X6_24 rfl rfl rfl ?_
      refine S.getR 15 rfl fo_X6_96 rfl rfl rfl ?_
      refine S.aload_n 16 0 rfl rfl ?_
      refine S.getI 17 rfl fo_X6_38 rfl rfl ?_
      refine S.cald 18 rfl rfl ?_
      refine S.bipush (57 : Int32) 19 rfl (by decide) ?_
      refine S.icmp_gt 49 20 rfl (by decide) (fun _ => ?_) (fun _ => ?_)
      · refine S.iconst (0 : Int32) 23 rfl (by decide) ?_
        exact S.iret 24 rfl rfl rfl (Nat.le_refl _) (Nat.le_refl _) rfl
      · refine S.iconst (1 : Int32) 21 rfl (by decide) ?_
        refine S.goto 50 22 rfl (by decide) ?_
        exact S.iret 24 rfl rfl rfl (Nat.le_refl _) (Nat.le_refl _) rfl
def F_X6_fail (l1 : Int32) (I : HI) (J : HJ) : Option (Int32 × HI × HJ) :=
  lb (ui I x_reader f_Reader_bad l1) fun I2 =>
  some ((0 : Int32), I2, J)
set_option maxRecDepth 100000 in
theorem cm_X6_fail (b : Bool) (l1 : Int32) (I : HI) (J : HJ) : CM mX6_fail 1 0 0 [.ref 10, .int l1] (zs b, I, J) (fI (zs b)) (F_X6_fail l1 I J) := by
  refine S.of okX6_fail pn_X6 (Nat.le_of_ble_eq_true rfl) ?_
  refine S.sub (lv' := [(0, .ref 10), (1, .int l1)]) [0, 1] rfl ?_
  unfold F_X6_fail
  refine S.aload_n 0 0 rfl rfl ?_
  refine S.iload_n 1 1 rfl rfl ?_
  refine S.putI 2 rfl fo_X6_41 rfl rfl rfl rfl (fun _ hq => by cases hq; exact Or.inl rfl) (fun I2 => ?_)
  refine S.iconst (0 : Int32) 3 rfl (by decide) ?_
  exact S.iret 4 rfl rfl rfl (Nat.le_refl _) (Nat.le_refl _) rfl
def F_X6_takeNumber (l1 : Int32) (l2 : Int32) (I : HI) (J : HJ) : Option (Int32 × HI × HJ) :=
  cp (F_X6_isDigit I J) fun r5 =>
  if r5 = 0 then
    cl (F_X6_fail (I x_reader f_Reader_at) I J) fun r18 I19 J20 =>
    some ((-1 : Int32), I19, J20)
  else
    bx (I x_reader f_Reader_at) 80 <|
    lb (((I x_text_signs (Int32.toNatClampNeg (I x_reader f_Reader_at))) - (48 : Int32))) fun x6 =>
    lb (ui I x_reader f_Reader_at ((I x_reader f_Reader_at) + (1 : Int32))) fun I7 =>
    cp (F_X6_isDigit I7 J) fun r8 =>
    lb (fun (y9 : Int32) (I10 : HI) =>
    lb (
    cl (F_X6_fail ((I10 x_reader f_Reader_at) - (1 : Int32)) I10 J) fun r13 I14 J15 =>
    some ((-1 : Int32), I14, J15)) fun j12 =>
    if y9 < l1 then
      j12
    else
      if y9 ≤ l2 then
        some (y9, I10, J)
      else
        j12) fun j11 =>
    if r8 = 0 then
      j11 x6 I7
    else
      bx (I7 x_reader f_Reader_at) 80 <|
      lb ((((x6 * (10 : Int32)) + (I7 x_text_signs (Int32.toNatClampNeg (I7 x_reader f_Reader_at)))) - (48 : Int32))) fun x16 =>
      lb (ui I7 x_reader f_Reader_at ((I7 x_reader f_Reader_at) + (1 : Int32))) fun I17 =>
      j11 x16 I17
set_option maxRecDepth 100000 in
theorem cm_X6_takeNumber (b : Bool) (l1 : Int32) (l2 : Int32) (I : HI) (J : HJ) : CM mX6_takeNumber 2 0 0 [.ref 10, .int l1, .int l2] (zs b, I, J) (fI (zs b)) (F_X6_takeNumber l1 l2 I J) := by
  refine S.of okX6_takeNumber pn_X6 (Nat.le_of_ble_eq_true rfl) ?_
  refine S.sub (lv' := [(0, .ref 10), (1, .int l1), (2, .int l2)]) [0, 1, 2] rfl ?_
  unfold F_X6_takeNumber
  refine S.aload_n 0 0 rfl rfl ?_
  refine S.qVI (d := 1) (av := []) (rs := []) (b := 10) 1 rfl co_X6_100 rfl rfl rfl rfl rfl ⟨⟨Nat.le_of_ble_eq_true rfl, Nat.le_of_ble_eq_true rfl⟩, ⟨Nat.le_of_ble_eq_true rfl, Nat.le_of_ble_eq_true rfl⟩, Nat.le_of_ble_eq_true rfl⟩ (cm_X6_isDigit b I J) (fun r5 => ?_)
  refine S.if_ne 18 2 rfl (by decide) (fun _ => ?_) (fun _ => ?_)
  · refine S.aload_n 10 0 rfl rfl ?_
    refine S.getR 11 rfl fo_X6_24 rfl rfl rfl ?_
    refine S.getR 12 rfl fo_X6_96 rfl rfl rfl ?_
    refine S.aload_n 13 0 rfl rfl ?_
    refine S.getI 14 rfl fo_X6_38 rfl rfl ?_
    refine S.cald 15 rfl rfl ?_
    refine S.bipush (48 : Int32) 16 rfl (by decide) ?_
    refine S.isub 17 rfl ?_
    refine S.nmi (fun x6 => ?_)
    refine S.istore_n [(3, .int x6), (0, .ref 10), (1, .int l1), (2, .int l2)] 18 rfl (by decide) rfl ?_
    refine S.aload_n 19 1 rfl rfl ?_
    refine S.dup 20 rfl rfl ?_
    refine S.getI 21 rfl fo_X6_38 rfl rfl ?_
    refine S.iconst (1 : Int32) 22 rfl (by decide) ?_
    refine S.iadd 23 rfl ?_
    refine S.putI 24 rfl fo_X6_38 rfl rfl rfl rfl (fun _ hq => by cases hq; exact Or.inl rfl) (fun I7 => ?_)
    refine S.aload_n 25 1 rfl rfl ?_
    refine S.qVI (d := 1) (av := []) (rs := []) (b := 10) 26 rfl co_X6_100 rfl rfl rfl rfl rfl ⟨⟨Nat.le_of_ble_eq_true rfl, Nat.le_of_ble_eq_true rfl⟩, ⟨Nat.le_of_ble_eq_true rfl, Nat.le_of_ble_eq_true rfl⟩, Nat.le_of_ble_eq_true rfl⟩ (cm_X6_isDigit b I7 J) (fun r8 => ?_)
    refine S.jn (fun j => ∀ (y9 : Int32) (I10 : HI), S (fI (zs b)) mX6_takeNumber (rmd 2 0 0) 0 0 (0, 0) 82 [(0, .ref 10), (1, .int l1), (2, .int l2), (3, .int y9)] [] (zs b, I10, J) (j y9 I10)) (fun y9 I10 => ?_) (fun j11 hj11 => ?_)
    · refine S.iload_n 47 3 rfl rfl ?_
      refine S.iload_n 48 1 rfl rfl ?_
      refine S.jn (fun j => S (fI (zs b)) mX6_takeNumber (rmd 2 0 0) 0 0 (0, 0) 92 [(0, .ref 10)] [] (zs b, I10, J) (j)) ?_ (fun j12 hj12 => ?_)
      · refine S.aload_n 53 0 rfl rfl ?_
        refine S.aload_n 54 0 rfl rfl ?_
        refine S.getI 55 rfl fo_X6_38 rfl rfl ?_
        refine S.iconst (1 : Int32) 56 rfl (by decide) ?_
        refine S.isub 57 rfl ?_
        refine S.cVI (d := 1) (av := [.int ((I10 x_reader f_Reader_at) - (1 : Int32))]) (rs := [.int ((I10 x_reader f_Reader_at) - (1 : Int32))]) (b := 10) 58 rfl co_X6_92 rfl rfl rfl rfl rfl ⟨⟨Nat.le_of_ble_eq_true rfl, Nat.le_of_ble_eq_true rfl⟩, ⟨Nat.le_of_ble_eq_true rfl, Nat.le_of_ble_eq_true rfl⟩, Nat.le_of_ble_eq_true rfl⟩ (cm_X6_fail b ((I10 x_reader f_Reader_at) - (1 : Int32)) I10 J) (fun r13 I14 J15 => ?_)
        refine S.pop 59 rfl rfl ?_
        refine S.iconst (-1 : Int32) 60 rfl (by decide) ?_
        exact S.iret 61 rfl rfl rfl (Nat.le_refl _) (Nat.le_refl _) rfl
      · refine S.icmp_lt 92 49 rfl (by decide) (fun _ => ?_) (fun _ => ?_)
        · refine S.sub (lv' := [(0, .ref 10)]) [0] rfl ?_
          exact hj12
        · refine S.iload_n 50 3 rfl rfl ?_
          refine S.iload_n 51 2 rfl rfl ?_
          refine S.icmp_le 105 52 rfl (by decide) (fun _ => ?_) (fun _ => ?_)
          · refine S.iload_n 62 3 rfl rfl ?_
            exact S.iret 63 rfl rfl rfl (Nat.le_refl _) (Nat.le_refl _) rfl
          · refine S.sub (lv' := [(0, .ref 10)]) [0] rfl ?_
            exact hj12
    · refine S.if_eq 82 27 rfl (by decide) (fun _ => ?_) (fun _ => ?_)
      · refine S.sub (lv' := [(0, .ref 10), (1, .int l1), (2, .int l2), (3, .int x6)]) [1, 2, 3, 0] rfl ?_
        exact hj11 _ _
      · refine S.iload_n 28 0 rfl rfl ?_
        refine S.bipush (10 : Int32) 29 rfl (by decide) ?_
        refine S.imul 30 rfl ?_
        refine S.aload_n 31 1 rfl rfl ?_
        refine S.getR 32 rfl fo_X6_24 rfl rfl rfl ?_
        refine S.getR 33 rfl fo_X6_96 rfl rfl rfl ?_
        refine S.aload_n 34 1 rfl rfl ?_
        refine S.getI 35 rfl fo_X6_38 rfl rfl ?_
        refine S.cald 36 rfl rfl ?_
        refine S.iadd 37 rfl ?_
        refine S.bipush (48 : Int32) 38 rfl (by decide) ?_
        refine S.isub 39 rfl ?_
        refine S.nmi (fun x16 => ?_)
        refine S.istore_n [(3, .int x16), (0, .ref 10), (1, .int l1), (2, .int l2)] 40 rfl (by decide) rfl ?_
        refine S.aload_n 41 1 rfl rfl ?_
        refine S.dup 42 rfl rfl ?_
        refine S.getI 43 rfl fo_X6_38 rfl rfl ?_
        refine S.iconst (1 : Int32) 44 rfl (by decide) ?_
        refine S.iadd 45 rfl ?_
        refine S.putI 46 rfl fo_X6_38 rfl rfl rfl rfl (fun _ hq => by cases hq; exact Or.inl rfl) (fun I17 => ?_)
        refine S.sub (lv' := [(0, .ref 10), (1, .int l1), (2, .int l2), (3, .int x16)]) [1, 2, 3, 0] rfl ?_
        exact hj11 _ _
  · refine S.aload_n 3 0 rfl rfl ?_
    refine S.aload_n 4 0 rfl rfl ?_
    refine S.getI 5 rfl fo_X6_38 rfl rfl ?_
    refine S.cVI (d := 1) (av := [.int (I x_reader f_Reader_at)]) (rs := [.int (I x_reader f_Reader_at)]) (b := 10) 6 rfl co_X6_92 rfl rfl rfl rfl rfl ⟨⟨Nat.le_of_ble_eq_true rfl, Nat.le_of_ble_eq_true rfl⟩, ⟨Nat.le_of_ble_eq_true rfl, Nat.le_of_ble_eq_true rfl⟩, Nat.le_of_ble_eq_true rfl⟩ (cm_X6_fail b (I x_reader f_Reader_at) I J) (fun r18 I19 J20 => ?_)
    refine S.pop 7 rfl rfl ?_
    refine S.iconst (-1 : Int32) 8 rfl (by decide) ?_
    exact S.iret 9 rfl rfl rfl (Nat.le_refl _) (Nat.le_refl _) rfl
def F_X6_note (l1 : Int32) (l2 : Int32) (l3 : Int32) (l4 : Int32) (I : HI) (J : HJ) : Option (Int32 × HI × HJ) :=
  if (I x_reader f_Reader_lines) < (76 : Int32) then
    bx (I x_reader f_Reader_lines) 76 <|
    lb (ui I x_reader_kinds (Int32.toNatClampNeg (I x_reader f_Reader_lines)) l1) fun I6 =>
    bx (I6 x_reader f_Reader_lines) 76 <|
    lb (ui I6 x_reader_wires (Int32.toNatClampNeg (I6 x_reader f_Reader_lines)) l2) fun I7 =>
    bx (I7 x_reader f_Reader_lines) 76 <|
    lb (ui I7 x_reader_goals (Int32.toNatClampNeg (I7 x_reader f_Reader_lines)) l3) fun I8 =>
    bx (I8 x_reader f_Reader_lines) 76 <|
    lb (ui I8 x_reader_numbers (Int32.toNatClampNeg (I8 x_reader f_Reader_lines)) l4) fun I9 =>
    lb (ui I9 x_reader f_Reader_lines ((I9 x_reader f_Reader_lines) + (1 : Int32))) fun I10 =>
    some ((1 : Int32), I10, J)
  else
    cl (F_X6_fail (I x_reader f_Reader_at) I J) fun r11 I12 J13 =>
    g01 r11 <|
    some (r11, I12, J13)
set_option maxRecDepth 100000 in
theorem cm_X6_note (b : Bool) (l1 : Int32) (l2 : Int32) (l3 : Int32) (l4 : Int32) (I : HI) (J : HJ) : CM mX6_note 2 0 0 [.ref 10, .int l1, .int l2, .int l3, .int l4] (zs b, I, J) (fI (zs b)) (F_X6_note l1 l2 l3 l4 I J) := by
  refine S.of okX6_note pn_X6 (Nat.le_of_ble_eq_true rfl) ?_
  refine S.sub (lv' := [(0, .ref 10), (1, .int l1), (2, .int l2), (3, .int l3), (4, .int l4)]) [0, 1, 2, 3, 4] rfl ?_
  unfold F_X6_note
  refine S.aload_n 0 0 rfl rfl ?_
  refine S.getI 1 rfl fo_X6_35 rfl rfl ?_
  refine S.aload_n 2 0 rfl rfl ?_
  refine S.getR 3 rfl fo_X6_11 rfl rfl rfl ?_
  refine S.alen (76 : Int32) 4 rfl rfl (by decide) (by decide) (by decide) ?_
  refine S.icmp_lt 21 5 rfl (by decide) (fun _ => ?_) (fun _ => ?_)
  · refine S.aload_n 11 0 rfl rfl ?_
    refine S.getR 12 rfl fo_X6_11 rfl rfl rfl ?_
    refine S.aload_n 13 0 rfl rfl ?_
    refine S.getI 14 rfl fo_X6_35 rfl rfl ?_
    refine S.iload_n 15 1 rfl rfl ?_
    refine S.iast 16 rfl rfl (fun I6 => ?_)
    refine S.aload_n 17 0 rfl rfl ?_
    refine S.getR 18 rfl fo_X6_15 rfl rfl rfl ?_
    refine S.aload_n 19 0 rfl rfl ?_
    refine S.getI 20 rfl fo_X6_35 rfl rfl ?_
    refine S.iload_n 21 2 rfl rfl ?_
    refine S.iast 22 rfl rfl (fun I7 => ?_)
    refine S.aload_n 23 0 rfl rfl ?_
    refine S.getR 24 rfl fo_X6_18 rfl rfl rfl ?_
    refine S.aload_n 25 0 rfl rfl ?_
    refine S.getI 26 rfl fo_X6_35 rfl rfl ?_
    refine S.iload_n 27 3 rfl rfl ?_
    refine S.iast 28 rfl rfl (fun I8 => ?_)
    refine S.aload_n 29 0 rfl rfl ?_
    refine S.getR 30 rfl fo_X6_21 rfl rfl rfl ?_
    refine S.aload_n 31 0 rfl rfl ?_
    refine S.getI 32 rfl fo_X6_35 rfl rfl ?_
    refine S.iload 33 4 rfl rfl ?_
    refine S.iast 34 rfl rfl (fun I9 => ?_)
    refine S.aload_n 35 0 rfl rfl ?_
    refine S.dup 36 rfl rfl ?_
    refine S.getI 37 rfl fo_X6_35 rfl rfl ?_
    refine S.iconst (1 : Int32) 38 rfl (by decide) ?_
    refine S.iadd 39 rfl ?_
    refine S.putI 40 rfl fo_X6_35 rfl rfl rfl rfl (fun _ hq => by cases hq; exact Or.inl rfl) (fun I10 => ?_)
    refine S.iconst (1 : Int32) 41 rfl (by decide) ?_
    exact S.iret 42 rfl rfl rfl (Nat.le_refl _) (Nat.le_refl _) rfl
  · refine S.aload_n 6 0 rfl rfl ?_
    refine S.aload_n 7 0 rfl rfl ?_
    refine S.getI 8 rfl fo_X6_38 rfl rfl ?_
    refine S.cVI (d := 1) (av := [.int (I x_reader f_Reader_at)]) (rs := [.int (I x_reader f_Reader_at)]) (b := 10) 9 rfl co_X6_92 rfl rfl rfl rfl rfl ⟨⟨Nat.le_of_ble_eq_true rfl, Nat.le_of_ble_eq_true rfl⟩, ⟨Nat.le_of_ble_eq_true rfl, Nat.le_of_ble_eq_true rfl⟩, Nat.le_of_ble_eq_true rfl⟩ (cm_X6_fail b (I x_reader f_Reader_at) I J) (fun r11 I12 J13 => ?_)
    refine S.gg01 (fun h01 => ?_)
    exact S.iret 10 rfl rfl (nar01 h01) (Nat.le_refl _) (Nat.le_refl _) rfl
def F_X6_readWidth  (I : HI) (J : HJ) : Option (Int32 × HI × HJ) :=
  lb (ui I x_reader f_Reader_at ((I x_reader f_Reader_at) + (1 : Int32))) fun I4 =>
  cl (F_X6_takeNumber (2 : Int32) (10 : Int32) I4 J) fun r5 I6 J7 =>
  if r5 = (-1 : Int32) then
    some ((0 : Int32), I6, J7)
  else
    lb (ui I6 x_reader f_Reader_wide r5) fun I8 =>
    lb (ui I8 x_reader f_Reader_lamps (0 : Int32)) fun I9 =>
    cl (F_X6_note (0 : Int32) (-1 : Int32) (-1 : Int32) r5 I9 J7) fun r10 I11 J12 =>
    g01 r10 <|
    some (r10, I11, J12)
set_option maxRecDepth 100000 in
theorem cm_X6_readWidth (b : Bool)  (I : HI) (J : HJ) : CM mX6_readWidth 3 0 0 [.ref 10] (zs b, I, J) (fI (zs b)) (F_X6_readWidth  I J) := by
  refine S.of okX6_readWidth pn_X6 (Nat.le_of_ble_eq_true rfl) ?_
  refine S.sub (lv' := [(0, .ref 10)]) [0] rfl ?_
  unfold F_X6_readWidth
  refine S.aload_n 0 0 rfl rfl ?_
  refine S.dup 1 rfl rfl ?_
  refine S.getI 2 rfl fo_X6_38 rfl rfl ?_
  refine S.iconst (1 : Int32) 3 rfl (by decide) ?_
  refine S.iadd 4 rfl ?_
  refine S.putI 5 rfl fo_X6_38 rfl rfl rfl rfl (fun _ hq => by cases hq; exact Or.inl rfl) (fun I4 => ?_)
  refine S.aload_n 6 0 rfl rfl ?_
  refine S.iconst (2 : Int32) 7 rfl (by decide) ?_
  refine S.bipush (10 : Int32) 8 rfl (by decide) ?_
  refine S.cVI (d := 2) (av := [.int (2 : Int32), .int (10 : Int32)]) (rs := [.int (10 : Int32), .int (2 : Int32)]) (b := 10) 9 rfl co_X6_81 rfl rfl rfl rfl rfl ⟨⟨Nat.le_of_ble_eq_true rfl, Nat.le_of_ble_eq_true rfl⟩, ⟨Nat.le_of_ble_eq_true rfl, Nat.le_of_ble_eq_true rfl⟩, Nat.le_of_ble_eq_true rfl⟩ (cm_X6_takeNumber b (2 : Int32) (10 : Int32) I4 J) (fun r5 I6 J7 => ?_)
  refine S.istore_n [(1, .int r5), (0, .ref 10)] 10 rfl (by decide) rfl ?_
  refine S.iload_n 11 0 rfl rfl ?_
  refine S.iconst (-1 : Int32) 12 rfl (by decide) ?_
  refine S.icmp_ne 25 13 rfl (by decide) (fun _ => ?_) (fun _ => ?_)
  · refine S.aload_n 16 1 rfl rfl ?_
    refine S.iload_n 17 0 rfl rfl ?_
    refine S.putI 18 rfl fo_X6_28 rfl rfl rfl rfl (fun _ hq => by cases hq; exact Or.inl rfl) (fun I8 => ?_)
    refine S.aload_n 19 1 rfl rfl ?_
    refine S.iconst (0 : Int32) 20 rfl (by decide) ?_
    refine S.putI 21 rfl fo_X6_32 rfl rfl rfl rfl (fun _ hq => by cases hq; exact Or.inl rfl) (fun I9 => ?_)
    refine S.aload_n 22 1 rfl rfl ?_
    refine S.iconst (0 : Int32) 23 rfl (by decide) ?_
    refine S.iconst (-1 : Int32) 24 rfl (by decide) ?_
    refine S.iconst (-1 : Int32) 25 rfl (by decide) ?_
    refine S.iload_n 26 0 rfl rfl ?_
    refine S.cVI (d := 2) (av := [.int (0 : Int32), .int (-1 : Int32), .int (-1 : Int32), .int r5]) (rs := [.int r5, .int (-1 : Int32), .int (-1 : Int32), .int (0 : Int32)]) (b := 10) 27 rfl co_X6_84 rfl rfl rfl rfl rfl ⟨⟨Nat.le_of_ble_eq_true rfl, Nat.le_of_ble_eq_true rfl⟩, ⟨Nat.le_of_ble_eq_true rfl, Nat.le_of_ble_eq_true rfl⟩, Nat.le_of_ble_eq_true rfl⟩ (cm_X6_note b (0 : Int32) (-1 : Int32) (-1 : Int32) r5 I9 J7) (fun r10 I11 J12 => ?_)
    refine S.gg01 (fun h01 => ?_)
    exact S.iret 28 rfl rfl (nar01 h01) (Nat.le_refl _) (Nat.le_refl _) rfl
  · refine S.iconst (0 : Int32) 14 rfl (by decide) ?_
    exact S.iret 15 rfl rfl rfl (Nat.le_refl _) (Nat.le_refl _) rfl
def F_X6_takeWire (l1 : Int32) (I : HI) (J : HJ) : Option (Int32 × HI × HJ) :=
  cp (F_X6_isDigit I J) fun r3 =>
  lb (fun (y4 : Int32) =>
  lb (
  cl (F_X6_fail (I x_reader f_Reader_at) I J) fun r7 I8 J9 =>
  some ((-1 : Int32), I8, J9)) fun j6 =>
  if y4 = (-1 : Int32) then
    j6
  else
    if (I x_reader f_Reader_wide) ≤ y4 then
      j6
    else
      if y4 = l1 then
        j6
      else
        lb (ui I x_reader f_Reader_at ((I x_reader f_Reader_at) + (1 : Int32))) fun I10 =>
        some (y4, I10, J)) fun j5 =>
  if r3 = 0 then
    j5 (-1 : Int32)
  else
    bx (I x_reader f_Reader_at) 80 <|
    j5 ((I x_text_signs (Int32.toNatClampNeg (I x_reader f_Reader_at))) - (48 : Int32))
set_option maxRecDepth 100000 in
theorem cm_X6_takeWire (b : Bool) (l1 : Int32) (I : HI) (J : HJ) : CM mX6_takeWire 2 0 0 [.ref 10, .int l1] (zs b, I, J) (fI (zs b)) (F_X6_takeWire l1 I J) := by
  refine S.of okX6_takeWire pn_X6 (Nat.le_of_ble_eq_true rfl) ?_
  refine S.sub (lv' := [(0, .ref 10), (1, .int l1)]) [0, 1] rfl ?_
  unfold F_X6_takeWire
  refine S.aload_n 0 0 rfl rfl ?_
  refine S.qVI (d := 1) (av := []) (rs := []) (b := 10) 1 rfl co_X6_100 rfl rfl rfl rfl rfl ⟨⟨Nat.le_of_ble_eq_true rfl, Nat.le_of_ble_eq_true rfl⟩, ⟨Nat.le_of_ble_eq_true rfl, Nat.le_of_ble_eq_true rfl⟩, Nat.le_of_ble_eq_true rfl⟩ (cm_X6_isDigit b I J) (fun r3 => ?_)
  refine S.jn (fun j => ∀ (y4 : Int32), S (fI (zs b)) mX6_takeWire (rmd 2 0 0) 0 0 (0, 0) 26 [(0, .ref 10), (1, .int l1)] [.int y4] (zs b, I, J) (j y4)) (fun y4 => ?_) (fun j5 hj5 => ?_)
  · refine S.istore_n [(2, .int y4), (0, .ref 10), (1, .int l1)] 13 rfl (by decide) rfl ?_
    refine S.iload_n 14 0 rfl rfl ?_
    refine S.iconst (-1 : Int32) 15 rfl (by decide) ?_
    refine S.jn (fun j => S (fI (zs b)) mX6_takeWire (rmd 2 0 0) 0 0 (0, 0) 45 [(0, .ref 10)] [] (zs b, I, J) (j)) ?_ (fun j6 hj6 => ?_)
    · refine S.aload_n 24 0 rfl rfl ?_
      refine S.aload_n 25 0 rfl rfl ?_
      refine S.getI 26 rfl fo_X6_38 rfl rfl ?_
      refine S.cVI (d := 1) (av := [.int (I x_reader f_Reader_at)]) (rs := [.int (I x_reader f_Reader_at)]) (b := 10) 27 rfl co_X6_92 rfl rfl rfl rfl rfl ⟨⟨Nat.le_of_ble_eq_true rfl, Nat.le_of_ble_eq_true rfl⟩, ⟨Nat.le_of_ble_eq_true rfl, Nat.le_of_ble_eq_true rfl⟩, Nat.le_of_ble_eq_true rfl⟩ (cm_X6_fail b (I x_reader f_Reader_at) I J) (fun r7 I8 J9 => ?_)
      refine S.pop 28 rfl rfl ?_
      refine S.iconst (-1 : Int32) 29 rfl (by decide) ?_
      exact S.iret 30 rfl rfl rfl (Nat.le_refl _) (Nat.le_refl _) rfl
    · refine S.icmp_eq 45 16 rfl (by decide) (fun _ => ?_) (fun _ => ?_)
      · refine S.sub (lv' := [(0, .ref 10)]) [1] rfl ?_
        exact hj6
      · refine S.iload_n 17 0 rfl rfl ?_
        refine S.aload_n 18 1 rfl rfl ?_
        refine S.getI 19 rfl fo_X6_28 rfl rfl ?_
        refine S.icmp_ge 45 20 rfl (by decide) (fun _ => ?_) (fun _ => ?_)
        · refine S.sub (lv' := [(0, .ref 10)]) [1] rfl ?_
          exact hj6
        · refine S.iload_n 21 0 rfl rfl ?_
          refine S.iload_n 22 2 rfl rfl ?_
          refine S.icmp_ne 56 23 rfl (by decide) (fun _ => ?_) (fun _ => ?_)
          · refine S.aload_n 31 1 rfl rfl ?_
            refine S.dup 32 rfl rfl ?_
            refine S.getI 33 rfl fo_X6_38 rfl rfl ?_
            refine S.iconst (1 : Int32) 34 rfl (by decide) ?_
            refine S.iadd 35 rfl ?_
            refine S.putI 36 rfl fo_X6_38 rfl rfl rfl rfl (fun _ hq => by cases hq; exact Or.inl rfl) (fun I10 => ?_)
            refine S.iload_n 37 0 rfl rfl ?_
            exact S.iret 38 rfl rfl rfl (Nat.le_refl _) (Nat.le_refl _) rfl
          · refine S.sub (lv' := [(0, .ref 10)]) [1] rfl ?_
            exact hj6
  · refine S.if_eq 25 2 rfl (by decide) (fun _ => ?_) (fun _ => ?_)
    · refine S.iconst (-1 : Int32) 12 rfl (by decide) ?_
      exact hj5 _
    · refine S.aload_n 3 0 rfl rfl ?_
      refine S.getR 4 rfl fo_X6_24 rfl rfl rfl ?_
      refine S.getR 5 rfl fo_X6_96 rfl rfl rfl ?_
      refine S.aload_n 6 0 rfl rfl ?_
      refine S.getI 7 rfl fo_X6_38 rfl rfl ?_
      refine S.cald 8 rfl rfl ?_
      refine S.bipush (48 : Int32) 9 rfl (by decide) ?_
      refine S.isub 10 rfl ?_
      refine S.goto 26 11 rfl (by decide) ?_
      exact hj5 _
def F_X6_take (l1 : Int32) (I : HI) (J : HJ) : Option (Int32 × HI × HJ) :=
  cp (F_X6_isAt l1 I J) fun r2 =>
  if r2 = 0 then
    cl (F_X6_fail (I x_reader f_Reader_at) I J) fun r4 I5 J6 =>
    g01 r4 <|
    some (r4, I5, J6)
  else
    lb (ui I x_reader f_Reader_at ((I x_reader f_Reader_at) + (1 : Int32))) fun I3 =>
    some ((1 : Int32), I3, J)
set_option maxRecDepth 100000 in
theorem cm_X6_take (b : Bool) (l1 : Int32) (I : HI) (J : HJ) : CM mX6_take 2 0 0 [.ref 10, .int l1] (zs b, I, J) (fI (zs b)) (F_X6_take l1 I J) := by
  refine S.of okX6_take pn_X6 (Nat.le_of_ble_eq_true rfl) ?_
  refine S.sub (lv' := [(0, .ref 10), (1, .int l1)]) [0, 1] rfl ?_
  unfold F_X6_take
  refine S.aload_n 0 0 rfl rfl ?_
  refine S.iload_n 1 1 rfl rfl ?_
  refine S.qVI (d := 1) (av := [.int l1]) (rs := [.int l1]) (b := 10) 2 rfl co_X6_69 rfl rfl rfl rfl rfl ⟨⟨Nat.le_of_ble_eq_true rfl, Nat.le_of_ble_eq_true rfl⟩, ⟨Nat.le_of_ble_eq_true rfl, Nat.le_of_ble_eq_true rfl⟩, Nat.le_of_ble_eq_true rfl⟩ (cm_X6_isAt b l1 I J) (fun r2 => ?_)
  refine S.if_ne 17 3 rfl (by decide) (fun _ => ?_) (fun _ => ?_)
  · refine S.aload_n 9 0 rfl rfl ?_
    refine S.dup 10 rfl rfl ?_
    refine S.getI 11 rfl fo_X6_38 rfl rfl ?_
    refine S.iconst (1 : Int32) 12 rfl (by decide) ?_
    refine S.iadd 13 rfl ?_
    refine S.putI 14 rfl fo_X6_38 rfl rfl rfl rfl (fun _ hq => by cases hq; exact Or.inl rfl) (fun I3 => ?_)
    refine S.iconst (1 : Int32) 15 rfl (by decide) ?_
    exact S.iret 16 rfl rfl rfl (Nat.le_refl _) (Nat.le_refl _) rfl
  · refine S.aload_n 4 0 rfl rfl ?_
    refine S.aload_n 5 0 rfl rfl ?_
    refine S.getI 6 rfl fo_X6_38 rfl rfl ?_
    refine S.cVI (d := 1) (av := [.int (I x_reader f_Reader_at)]) (rs := [.int (I x_reader f_Reader_at)]) (b := 10) 7 rfl co_X6_92 rfl rfl rfl rfl rfl ⟨⟨Nat.le_of_ble_eq_true rfl, Nat.le_of_ble_eq_true rfl⟩, ⟨Nat.le_of_ble_eq_true rfl, Nat.le_of_ble_eq_true rfl⟩, Nat.le_of_ble_eq_true rfl⟩ (cm_X6_fail b (I x_reader f_Reader_at) I J) (fun r4 I5 J6 => ?_)
    refine S.gg01 (fun h01 => ?_)
    exact S.iret 8 rfl rfl (nar01 h01) (Nat.le_refl _) (Nat.le_refl _) rfl
def F_X6_readOhms  (I : HI) (J : HJ) : Option (Int32 × HI × HJ) :=
  lb (ui I x_reader f_Reader_at ((I x_reader f_Reader_at) + (1 : Int32))) fun I2 =>
  cl (F_X6_takeWire (-1 : Int32) I2 J) fun r3 I4 J5 =>
  if r3 = (-1 : Int32) then
    some ((0 : Int32), I4, J5)
  else
    cl (F_X6_take (44 : Int32) I4 J5) fun r6 I7 J8 =>
    if r6 = 0 then
      some ((0 : Int32), I7, J8)
    else
      cl (F_X6_takeNumber (0 : Int32) (4 : Int32) I7 J8) fun r9 I10 J11 =>
      if r9 = (-1 : Int32) then
        some ((0 : Int32), I10, J11)
      else
        cl (F_X6_note (1 : Int32) r3 (-1 : Int32) r9 I10 J11) fun r12 I13 J14 =>
        if r12 = 0 then
          some ((0 : Int32), I13, J14)
        else
          some ((1 : Int32), I13, J14)
set_option maxRecDepth 100000 in
theorem cm_X6_readOhms (b : Bool)  (I : HI) (J : HJ) : CM mX6_readOhms 3 0 0 [.ref 10] (zs b, I, J) (fI (zs b)) (F_X6_readOhms  I J) := by
  refine S.of okX6_readOhms pn_X6 (Nat.le_of_ble_eq_true rfl) ?_
  refine S.sub (lv' := [(0, .ref 10)]) [0] rfl ?_
  unfold F_X6_readOhms
  refine S.aload_n 0 0 rfl rfl ?_
  refine S.dup 1 rfl rfl ?_
  refine S.getI 2 rfl fo_X6_38 rfl rfl ?_
  refine S.iconst (1 : Int32) 3 rfl (by decide) ?_
  refine S.iadd 4 rfl ?_
  refine S.putI 5 rfl fo_X6_38 rfl rfl rfl rfl (fun _ hq => by cases hq; exact Or.inl rfl) (fun I2 => ?_)
  refine S.aload_n 6 0 rfl rfl ?_
  refine S.iconst (-1 : Int32) 7 rfl (by decide) ?_
  refine S.cVI (d := 2) (av := [.int (-1 : Int32)]) (rs := [.int (-1 : Int32)]) (b := 10) 8 rfl co_X6_88 rfl rfl rfl rfl rfl ⟨⟨Nat.le_of_ble_eq_true rfl, Nat.le_of_ble_eq_true rfl⟩, ⟨Nat.le_of_ble_eq_true rfl, Nat.le_of_ble_eq_true rfl⟩, Nat.le_of_ble_eq_true rfl⟩ (cm_X6_takeWire b (-1 : Int32) I2 J) (fun r3 I4 J5 => ?_)
  refine S.istore_n [(1, .int r3), (0, .ref 10)] 9 rfl (by decide) rfl ?_
  refine S.iload_n 10 0 rfl rfl ?_
  refine S.iconst (-1 : Int32) 11 rfl (by decide) ?_
  refine S.icmp_eq 30 12 rfl (by decide) (fun _ => ?_) (fun _ => ?_)
  · refine S.iconst (0 : Int32) 17 rfl (by decide) ?_
    exact S.iret 18 rfl rfl rfl (Nat.le_refl _) (Nat.le_refl _) rfl
  · refine S.aload_n 13 1 rfl rfl ?_
    refine S.bipush (44 : Int32) 14 rfl (by decide) ?_
    refine S.cVI (d := 2) (av := [.int (44 : Int32)]) (rs := [.int (44 : Int32)]) (b := 10) 15 rfl co_X6_65 rfl rfl rfl rfl rfl ⟨⟨Nat.le_of_ble_eq_true rfl, Nat.le_of_ble_eq_true rfl⟩, ⟨Nat.le_of_ble_eq_true rfl, Nat.le_of_ble_eq_true rfl⟩, Nat.le_of_ble_eq_true rfl⟩ (cm_X6_take b (44 : Int32) I4 J5) (fun r6 I7 J8 => ?_)
    refine S.if_ne 32 16 rfl (by decide) (fun _ => ?_) (fun _ => ?_)
    · refine S.aload_n 19 1 rfl rfl ?_
      refine S.iconst (0 : Int32) 20 rfl (by decide) ?_
      refine S.iconst (4 : Int32) 21 rfl (by decide) ?_
      refine S.cVI (d := 2) (av := [.int (0 : Int32), .int (4 : Int32)]) (rs := [.int (4 : Int32), .int (0 : Int32)]) (b := 10) 22 rfl co_X6_81 rfl rfl rfl rfl rfl ⟨⟨Nat.le_of_ble_eq_true rfl, Nat.le_of_ble_eq_true rfl⟩, ⟨Nat.le_of_ble_eq_true rfl, Nat.le_of_ble_eq_true rfl⟩, Nat.le_of_ble_eq_true rfl⟩ (cm_X6_takeNumber b (0 : Int32) (4 : Int32) I7 J8) (fun r9 I10 J11 => ?_)
      refine S.istore_n [(2, .int r9), (1, .int r3), (0, .ref 10)] 23 rfl (by decide) rfl ?_
      refine S.iload_n 24 0 rfl rfl ?_
      refine S.iconst (-1 : Int32) 25 rfl (by decide) ?_
      refine S.icmp_eq 59 26 rfl (by decide) (fun _ => ?_) (fun _ => ?_)
      · refine S.iconst (0 : Int32) 36 rfl (by decide) ?_
        exact S.iret 37 rfl rfl rfl (Nat.le_refl _) (Nat.le_refl _) rfl
      · refine S.aload_n 27 2 rfl rfl ?_
        refine S.iconst (1 : Int32) 28 rfl (by decide) ?_
        refine S.iload_n 29 1 rfl rfl ?_
        refine S.iconst (-1 : Int32) 30 rfl (by decide) ?_
        refine S.iload_n 31 0 rfl rfl ?_
        refine S.cVI (d := 2) (av := [.int (1 : Int32), .int r3, .int (-1 : Int32), .int r9]) (rs := [.int r9, .int (-1 : Int32), .int r3, .int (1 : Int32)]) (b := 10) 32 rfl co_X6_84 rfl rfl rfl rfl rfl ⟨⟨Nat.le_of_ble_eq_true rfl, Nat.le_of_ble_eq_true rfl⟩, ⟨Nat.le_of_ble_eq_true rfl, Nat.le_of_ble_eq_true rfl⟩, Nat.le_of_ble_eq_true rfl⟩ (cm_X6_note b (1 : Int32) r3 (-1 : Int32) r9 I10 J11) (fun r12 I13 J14 => ?_)
        refine S.if_eq 59 33 rfl (by decide) (fun _ => ?_) (fun _ => ?_)
        · refine S.iconst (0 : Int32) 36 rfl (by decide) ?_
          exact S.iret 37 rfl rfl rfl (Nat.le_refl _) (Nat.le_refl _) rfl
        · refine S.iconst (1 : Int32) 34 rfl (by decide) ?_
          refine S.goto 60 35 rfl (by decide) ?_
          exact S.iret 37 rfl rfl rfl (Nat.le_refl _) (Nat.le_refl _) rfl
    · refine S.iconst (0 : Int32) 17 rfl (by decide) ?_
      exact S.iret 18 rfl rfl rfl (Nat.le_refl _) (Nat.le_refl _) rfl
def F_X6_readLamp  (I : HI) (J : HJ) : Option (Int32 × HI × HJ) :=
  if (I x_reader f_Reader_lamps) < (60 : Int32) then
    cl (F_X6_takeWire (-1 : Int32) I J) fun r2 I3 J4 =>
    if r2 = (-1 : Int32) then
      some ((0 : Int32), I3, J4)
    else
      cl (F_X6_take (62 : Int32) I3 J4) fun r5 I6 J7 =>
      if r5 = 0 then
        some ((0 : Int32), I6, J7)
      else
        cl (F_X6_takeWire r2 I6 J7) fun r8 I9 J10 =>
        if r8 = (-1 : Int32) then
          some ((0 : Int32), I9, J10)
        else
          cl (F_X6_take (42 : Int32) I9 J10) fun r11 I12 J13 =>
          if r11 = 0 then
            some ((0 : Int32), I12, J13)
          else
            cl (F_X6_takeNumber (1 : Int32) (9 : Int32) I12 J13) fun r14 I15 J16 =>
            if r14 = (-1 : Int32) then
              some ((0 : Int32), I15, J16)
            else
              lb (ui I15 x_reader f_Reader_lamps ((I15 x_reader f_Reader_lamps) + (1 : Int32))) fun I17 =>
              cl (F_X6_note (2 : Int32) r2 r8 r14 I17 J16) fun r18 I19 J20 =>
              g01 r18 <|
              some (r18, I19, J20)
  else
    cl (F_X6_fail (I x_reader f_Reader_at) I J) fun r21 I22 J23 =>
    g01 r21 <|
    some (r21, I22, J23)
set_option maxRecDepth 100000 in
theorem cm_X6_readLamp (b : Bool)  (I : HI) (J : HJ) : CM mX6_readLamp 3 0 0 [.ref 10] (zs b, I, J) (fI (zs b)) (F_X6_readLamp  I J) := by
  refine S.of okX6_readLamp pn_X6 (Nat.le_of_ble_eq_true rfl) ?_
  refine S.sub (lv' := [(0, .ref 10)]) [0] rfl ?_
  unfold F_X6_readLamp
  refine S.aload_n 0 0 rfl rfl ?_
  refine S.getI 1 rfl fo_X6_32 rfl rfl ?_
  refine S.bipush (60 : Int32) 2 rfl (by decide) ?_
  refine S.icmp_lt 18 3 rfl (by decide) (fun _ => ?_) (fun _ => ?_)
  · refine S.aload_n 9 0 rfl rfl ?_
    refine S.iconst (-1 : Int32) 10 rfl (by decide) ?_
    refine S.cVI (d := 2) (av := [.int (-1 : Int32)]) (rs := [.int (-1 : Int32)]) (b := 10) 11 rfl co_X6_88 rfl rfl rfl rfl rfl ⟨⟨Nat.le_of_ble_eq_true rfl, Nat.le_of_ble_eq_true rfl⟩, ⟨Nat.le_of_ble_eq_true rfl, Nat.le_of_ble_eq_true rfl⟩, Nat.le_of_ble_eq_true rfl⟩ (cm_X6_takeWire b (-1 : Int32) I J) (fun r2 I3 J4 => ?_)
    refine S.istore_n [(1, .int r2), (0, .ref 10)] 12 rfl (by decide) rfl ?_
    refine S.iload_n 13 0 rfl rfl ?_
    refine S.iconst (-1 : Int32) 14 rfl (by decide) ?_
    refine S.icmp_eq 38 15 rfl (by decide) (fun _ => ?_) (fun _ => ?_)
    · refine S.iconst (0 : Int32) 20 rfl (by decide) ?_
      exact S.iret 21 rfl rfl rfl (Nat.le_refl _) (Nat.le_refl _) rfl
    · refine S.aload_n 16 1 rfl rfl ?_
      refine S.bipush (62 : Int32) 17 rfl (by decide) ?_
      refine S.cVI (d := 2) (av := [.int (62 : Int32)]) (rs := [.int (62 : Int32)]) (b := 10) 18 rfl co_X6_65 rfl rfl rfl rfl rfl ⟨⟨Nat.le_of_ble_eq_true rfl, Nat.le_of_ble_eq_true rfl⟩, ⟨Nat.le_of_ble_eq_true rfl, Nat.le_of_ble_eq_true rfl⟩, Nat.le_of_ble_eq_true rfl⟩ (cm_X6_take b (62 : Int32) I3 J4) (fun r5 I6 J7 => ?_)
      refine S.if_ne 40 19 rfl (by decide) (fun _ => ?_) (fun _ => ?_)
      · refine S.aload_n 22 1 rfl rfl ?_
        refine S.iload_n 23 0 rfl rfl ?_
        refine S.cVI (d := 2) (av := [.int r2]) (rs := [.int r2]) (b := 10) 24 rfl co_X6_88 rfl rfl rfl rfl rfl ⟨⟨Nat.le_of_ble_eq_true rfl, Nat.le_of_ble_eq_true rfl⟩, ⟨Nat.le_of_ble_eq_true rfl, Nat.le_of_ble_eq_true rfl⟩, Nat.le_of_ble_eq_true rfl⟩ (cm_X6_takeWire b r2 I6 J7) (fun r8 I9 J10 => ?_)
        refine S.istore_n [(2, .int r8), (1, .int r2), (0, .ref 10)] 25 rfl (by decide) rfl ?_
        refine S.iload_n 26 0 rfl rfl ?_
        refine S.iconst (-1 : Int32) 27 rfl (by decide) ?_
        refine S.icmp_eq 60 28 rfl (by decide) (fun _ => ?_) (fun _ => ?_)
        · refine S.iconst (0 : Int32) 33 rfl (by decide) ?_
          exact S.iret 34 rfl rfl rfl (Nat.le_refl _) (Nat.le_refl _) rfl
        · refine S.aload_n 29 2 rfl rfl ?_
          refine S.bipush (42 : Int32) 30 rfl (by decide) ?_
          refine S.cVI (d := 2) (av := [.int (42 : Int32)]) (rs := [.int (42 : Int32)]) (b := 10) 31 rfl co_X6_65 rfl rfl rfl rfl rfl ⟨⟨Nat.le_of_ble_eq_true rfl, Nat.le_of_ble_eq_true rfl⟩, ⟨Nat.le_of_ble_eq_true rfl, Nat.le_of_ble_eq_true rfl⟩, Nat.le_of_ble_eq_true rfl⟩ (cm_X6_take b (42 : Int32) I9 J10) (fun r11 I12 J13 => ?_)
          refine S.if_ne 62 32 rfl (by decide) (fun _ => ?_) (fun _ => ?_)
          · refine S.aload_n 35 2 rfl rfl ?_
            refine S.iconst (1 : Int32) 36 rfl (by decide) ?_
            refine S.bipush (9 : Int32) 37 rfl (by decide) ?_
            refine S.cVI (d := 2) (av := [.int (1 : Int32), .int (9 : Int32)]) (rs := [.int (9 : Int32), .int (1 : Int32)]) (b := 10) 38 rfl co_X6_81 rfl rfl rfl rfl rfl ⟨⟨Nat.le_of_ble_eq_true rfl, Nat.le_of_ble_eq_true rfl⟩, ⟨Nat.le_of_ble_eq_true rfl, Nat.le_of_ble_eq_true rfl⟩, Nat.le_of_ble_eq_true rfl⟩ (cm_X6_takeNumber b (1 : Int32) (9 : Int32) I12 J13) (fun r14 I15 J16 => ?_)
            refine S.istore_n [(3, .int r14), (2, .int r8), (1, .int r2), (0, .ref 10)] 39 rfl (by decide) rfl ?_
            refine S.iload_n 40 0 rfl rfl ?_
            refine S.iconst (-1 : Int32) 41 rfl (by decide) ?_
            refine S.icmp_ne 77 42 rfl (by decide) (fun _ => ?_) (fun _ => ?_)
            · refine S.aload_n 45 3 rfl rfl ?_
              refine S.dup 46 rfl rfl ?_
              refine S.getI 47 rfl fo_X6_32 rfl rfl ?_
              refine S.iconst (1 : Int32) 48 rfl (by decide) ?_
              refine S.iadd 49 rfl ?_
              refine S.putI 50 rfl fo_X6_32 rfl rfl rfl rfl (fun _ hq => by cases hq; exact Or.inl rfl) (fun I17 => ?_)
              refine S.aload_n 51 3 rfl rfl ?_
              refine S.iconst (2 : Int32) 52 rfl (by decide) ?_
              refine S.iload_n 53 2 rfl rfl ?_
              refine S.iload_n 54 1 rfl rfl ?_
              refine S.iload_n 55 0 rfl rfl ?_
              refine S.cVI (d := 2) (av := [.int (2 : Int32), .int r2, .int r8, .int r14]) (rs := [.int r14, .int r8, .int r2, .int (2 : Int32)]) (b := 10) 56 rfl co_X6_84 rfl rfl rfl rfl rfl ⟨⟨Nat.le_of_ble_eq_true rfl, Nat.le_of_ble_eq_true rfl⟩, ⟨Nat.le_of_ble_eq_true rfl, Nat.le_of_ble_eq_true rfl⟩, Nat.le_of_ble_eq_true rfl⟩ (cm_X6_note b (2 : Int32) r2 r8 r14 I17 J16) (fun r18 I19 J20 => ?_)
              refine S.gg01 (fun h01 => ?_)
              exact S.iret 57 rfl rfl (nar01 h01) (Nat.le_refl _) (Nat.le_refl _) rfl
            · refine S.iconst (0 : Int32) 43 rfl (by decide) ?_
              exact S.iret 44 rfl rfl rfl (Nat.le_refl _) (Nat.le_refl _) rfl
          · refine S.iconst (0 : Int32) 33 rfl (by decide) ?_
            exact S.iret 34 rfl rfl rfl (Nat.le_refl _) (Nat.le_refl _) rfl
      · refine S.iconst (0 : Int32) 20 rfl (by decide) ?_
        exact S.iret 21 rfl rfl rfl (Nat.le_refl _) (Nat.le_refl _) rfl
  · refine S.aload_n 4 0 rfl rfl ?_
    refine S.aload_n 5 0 rfl rfl ?_
    refine S.getI 6 rfl fo_X6_38 rfl rfl ?_
    refine S.cVI (d := 1) (av := [.int (I x_reader f_Reader_at)]) (rs := [.int (I x_reader f_Reader_at)]) (b := 10) 7 rfl co_X6_92 rfl rfl rfl rfl rfl ⟨⟨Nat.le_of_ble_eq_true rfl, Nat.le_of_ble_eq_true rfl⟩, ⟨Nat.le_of_ble_eq_true rfl, Nat.le_of_ble_eq_true rfl⟩, Nat.le_of_ble_eq_true rfl⟩ (cm_X6_fail b (I x_reader f_Reader_at) I J) (fun r21 I22 J23 => ?_)
    refine S.gg01 (fun h01 => ?_)
    exact S.iret 8 rfl rfl (nar01 h01) (Nat.le_refl _) (Nat.le_refl _) rfl
def F_X6_readLine  (I : HI) (J : HJ) : Option (Int32 × HI × HJ) :=
  cp (F_X6_isAt (119 : Int32) I J) fun r1 =>
  if r1 = 0 then
    cp (F_X6_isAt (114 : Int32) I J) fun r2 =>
    if r2 = 0 then
      cl (F_X6_readLamp I J) fun r3 I4 J5 =>
      g01 r3 <|
      some (r3, I4, J5)
    else
      cl (F_X6_readOhms I J) fun r6 I7 J8 =>
      g01 r6 <|
      some (r6, I7, J8)
  else
    cl (F_X6_readWidth I J) fun r9 I10 J11 =>
    g01 r9 <|
    some (r9, I10, J11)
set_option maxRecDepth 100000 in
theorem cm_X6_readLine (b : Bool)  (I : HI) (J : HJ) : CM mX6_readLine 4 0 0 [.ref 10] (zs b, I, J) (fI (zs b)) (F_X6_readLine  I J) := by
  refine S.of okX6_readLine pn_X6 (Nat.le_of_ble_eq_true rfl) ?_
  refine S.sub (lv' := [(0, .ref 10)]) [0] rfl ?_
  unfold F_X6_readLine
  refine S.aload_n 0 0 rfl rfl ?_
  refine S.bipush (119 : Int32) 1 rfl (by decide) ?_
  refine S.qVI (d := 1) (av := [.int (119 : Int32)]) (rs := [.int (119 : Int32)]) (b := 10) 2 rfl co_X6_69 rfl rfl rfl rfl rfl ⟨⟨Nat.le_of_ble_eq_true rfl, Nat.le_of_ble_eq_true rfl⟩, ⟨Nat.le_of_ble_eq_true rfl, Nat.le_of_ble_eq_true rfl⟩, Nat.le_of_ble_eq_true rfl⟩ (cm_X6_isAt b (119 : Int32) I J) (fun r1 => ?_)
  refine S.if_eq 14 3 rfl (by decide) (fun _ => ?_) (fun _ => ?_)
  · refine S.aload_n 7 0 rfl rfl ?_
    refine S.bipush (114 : Int32) 8 rfl (by decide) ?_
    refine S.qVI (d := 1) (av := [.int (114 : Int32)]) (rs := [.int (114 : Int32)]) (b := 10) 9 rfl co_X6_69 rfl rfl rfl rfl rfl ⟨⟨Nat.le_of_ble_eq_true rfl, Nat.le_of_ble_eq_true rfl⟩, ⟨Nat.le_of_ble_eq_true rfl, Nat.le_of_ble_eq_true rfl⟩, Nat.le_of_ble_eq_true rfl⟩ (cm_X6_isAt b (114 : Int32) I J) (fun r2 => ?_)
    refine S.if_eq 30 10 rfl (by decide) (fun _ => ?_) (fun _ => ?_)
    · refine S.aload_n 14 0 rfl rfl ?_
      refine S.cVI (d := 3) (av := []) (rs := []) (b := 10) 15 rfl co_X6_78 rfl rfl rfl rfl rfl ⟨⟨Nat.le_of_ble_eq_true rfl, Nat.le_of_ble_eq_true rfl⟩, ⟨Nat.le_of_ble_eq_true rfl, Nat.le_of_ble_eq_true rfl⟩, Nat.le_of_ble_eq_true rfl⟩ (cm_X6_readLamp b I J) (fun r3 I4 J5 => ?_)
      refine S.gg01 (fun h01 => ?_)
      exact S.iret 16 rfl rfl (nar01 h01) (Nat.le_refl _) (Nat.le_refl _) rfl
    · refine S.aload_n 11 0 rfl rfl ?_
      refine S.cVI (d := 3) (av := []) (rs := []) (b := 10) 12 rfl co_X6_75 rfl rfl rfl rfl rfl ⟨⟨Nat.le_of_ble_eq_true rfl, Nat.le_of_ble_eq_true rfl⟩, ⟨Nat.le_of_ble_eq_true rfl, Nat.le_of_ble_eq_true rfl⟩, Nat.le_of_ble_eq_true rfl⟩ (cm_X6_readOhms b I J) (fun r6 I7 J8 => ?_)
      refine S.goto 34 13 rfl (by decide) ?_
      refine S.gg01 (fun h01 => ?_)
      exact S.iret 16 rfl rfl (nar01 h01) (Nat.le_refl _) (Nat.le_refl _) rfl
  · refine S.aload_n 4 0 rfl rfl ?_
    refine S.cVI (d := 3) (av := []) (rs := []) (b := 10) 5 rfl co_X6_72 rfl rfl rfl rfl rfl ⟨⟨Nat.le_of_ble_eq_true rfl, Nat.le_of_ble_eq_true rfl⟩, ⟨Nat.le_of_ble_eq_true rfl, Nat.le_of_ble_eq_true rfl⟩, Nat.le_of_ble_eq_true rfl⟩ (cm_X6_readWidth b I J) (fun r9 I10 J11 => ?_)
    refine S.gg01 (fun h01 => ?_)
    exact S.iret 6 rfl rfl (nar01 h01) (Nat.le_refl _) (Nat.le_refl _) rfl
def F_X6_goesOn  (I : HI) (J : HJ) : Option (Int32 × HI × HJ) :=
  if (I x_reader f_Reader_limit) ≤ (I x_reader f_Reader_at) then
    some ((0 : Int32), I, J)
  else
    cl (F_X6_take (59 : Int32) I J) fun r1 I2 J3 =>
    if r1 = 0 then
      some ((0 : Int32), I2, J3)
    else
      some ((1 : Int32), I2, J3)
set_option maxRecDepth 100000 in
theorem cm_X6_goesOn (b : Bool)  (I : HI) (J : HJ) : CM mX6_goesOn 3 0 0 [.ref 10] (zs b, I, J) (fI (zs b)) (F_X6_goesOn  I J) := by
  refine S.of okX6_goesOn pn_X6 (Nat.le_of_ble_eq_true rfl) ?_
  refine S.sub (lv' := [(0, .ref 10)]) [0] rfl ?_
  unfold F_X6_goesOn
  refine S.aload_n 0 0 rfl rfl ?_
  refine S.getI 1 rfl fo_X6_38 rfl rfl ?_
  refine S.aload_n 2 0 rfl rfl ?_
  refine S.getI 3 rfl fo_X6_55 rfl rfl ?_
  refine S.icmp_ge 24 4 rfl (by decide) (fun _ => ?_) (fun _ => ?_)
  · refine S.iconst (0 : Int32) 11 rfl (by decide) ?_
    exact S.iret 12 rfl rfl rfl (Nat.le_refl _) (Nat.le_refl _) rfl
  · refine S.aload_n 5 0 rfl rfl ?_
    refine S.bipush (59 : Int32) 6 rfl (by decide) ?_
    refine S.cVI (d := 2) (av := [.int (59 : Int32)]) (rs := [.int (59 : Int32)]) (b := 10) 7 rfl co_X6_65 rfl rfl rfl rfl rfl ⟨⟨Nat.le_of_ble_eq_true rfl, Nat.le_of_ble_eq_true rfl⟩, ⟨Nat.le_of_ble_eq_true rfl, Nat.le_of_ble_eq_true rfl⟩, Nat.le_of_ble_eq_true rfl⟩ (cm_X6_take b (59 : Int32) I J) (fun r1 I2 J3 => ?_)
    refine S.if_eq 24 8 rfl (by decide) (fun _ => ?_) (fun _ => ?_)
    · refine S.iconst (0 : Int32) 11 rfl (by decide) ?_
      exact S.iret 12 rfl rfl rfl (Nat.le_refl _) (Nat.le_refl _) rfl
    · refine S.iconst (1 : Int32) 9 rfl (by decide) ?_
      refine S.goto 25 10 rfl (by decide) ?_
      exact S.iret 12 rfl rfl rfl (Nat.le_refl _) (Nat.le_refl _) rfl
def F_X6_read_L60 (kx97 : HI → HJ → Option (Int32 × HI × HJ)) : Nat → Int32 → Int32 → HI → HJ → Option (Int32 × HI × HJ)
  | 0, _, _, _, _ => none
  | K+1, l3, l4, I, J =>
    if (76 : Int32) ≤ l4 then
      kx97 I J
    else
      if l3 = 0 then
        kx97 I J
      else
        cl (F_X6_readLine I J) fun r16 I17 J18 =>
        lb (fun (y19 : Int32) (I20 : HI) (J21 : HJ) =>
        F_X6_read_L60 kx97 K y19 (l4 + 1) I20 J21) fun j22 =>
        lb (fun (I23 : HI) (J24 : HJ) =>
        j22 (0 : Int32) I23 J24) fun j25 =>
        if r16 = 0 then
          j25 I17 J18
        else
          cl (F_X6_goesOn I17 J18) fun r26 I27 J28 =>
          if r26 = 0 then
            j25 I27 J28
          else
            j22 (1 : Int32) I27 J28
set_option maxRecDepth 100000 in
theorem s_X6_read_L60 (b : Bool) (kx97 : HI → HJ → Option (Int32 × HI × HJ)) (hkx97 : ∀ (I1 : HI) (J1 : HJ), S (fI (zs b)) mX6_read (rmd 5 0 0) 0 0 (0, 0) 97 [(0, .ref 10)] [] (zs b, I1, J1) (kx97 I1 J1)) : ∀ (K : Nat) (l3 : Int32) (l4 : Int32) (I : HI) (J : HJ), S (fI (zs b)) mX6_read (rmd 5 0 0) 0 0 (0, 0) 60 [(0, .ref 10), (3, .int l3), (4, .int l4)] [] (zs b, I, J) (F_X6_read_L60 kx97 K l3 l4 I J) := by
  intro K
  induction K with
  | zero => intro l3 l4 I J; exact S.none
  | succ K ih =>
    intro l3 l4 I J
    rw [F_X6_read_L60]
    refine S.iload 32 2 rfl rfl ?_
    refine S.bipush (76 : Int32) 33 rfl (by decide) ?_
    refine S.icmp_ge 97 34 rfl (by decide) (fun _ => ?_) (fun _ => ?_)
    · refine S.sub (lv' := [(0, .ref 10)]) [0] rfl ?_
      exact hkx97 _ _
    · refine S.iload_n 35 1 rfl rfl ?_
      refine S.if_eq 97 36 rfl (by decide) (fun _ => ?_) (fun _ => ?_)
      · refine S.sub (lv' := [(0, .ref 10)]) [0] rfl ?_
        exact hkx97 _ _
      · refine S.aload_n 37 0 rfl rfl ?_
        refine S.cVI (d := 4) (av := []) (rs := []) (b := 10) 38 rfl co_X6_58 rfl rfl rfl rfl rfl ⟨⟨Nat.le_of_ble_eq_true rfl, Nat.le_of_ble_eq_true rfl⟩, ⟨Nat.le_of_ble_eq_true rfl, Nat.le_of_ble_eq_true rfl⟩, Nat.le_of_ble_eq_true rfl⟩ (cm_X6_readLine b I J) (fun r16 I17 J18 => ?_)
        refine S.jn (fun j => ∀ (y19 : Int32) (I20 : HI) (J21 : HJ), S (fI (zs b)) mX6_read (rmd 5 0 0) 0 0 (0, 0) 90 [(0, .ref 10), (4, .int l4)] [.int y19] (zs b, I20, J21) (j y19 I20 J21)) (fun y19 I20 J21 => ?_) (fun j22 hj22 => ?_)
        · refine S.istore_n [(3, .int y19), (0, .ref 10), (4, .int l4)] 46 rfl (by decide) rfl ?_
          refine S.iinc (l4 + 1) [(4, .int (l4 + 1)), (3, .int y19), (0, .ref 10)] 47 2 rfl rfl rfl (by decide) rfl ?_
          refine S.goto 60 48 rfl (by decide) ?_
          refine S.sub (lv' := [(0, .ref 10), (3, .int y19), (4, .int (l4 + 1))]) [2, 1, 0] rfl ?_
          exact ih _ _ _ _
        · refine S.jn (fun j => ∀ (I23 : HI) (J24 : HJ), S (fI (zs b)) mX6_read (rmd 5 0 0) 0 0 (0, 0) 89 [(0, .ref 10), (4, .int l4)] [] (zs b, I23, J24) (j I23 J24)) (fun I23 J24 => ?_) (fun j25 hj25 => ?_)
          · refine S.iconst (0 : Int32) 45 rfl (by decide) ?_
            exact hj22 _ _ _
          · refine S.if_eq 89 39 rfl (by decide) (fun _ => ?_) (fun _ => ?_)
            · refine S.sub (lv' := [(0, .ref 10), (4, .int l4)]) [0, 2] rfl ?_
              exact hj25 _ _
            · refine S.aload_n 40 0 rfl rfl ?_
              refine S.cVI (d := 3) (av := []) (rs := []) (b := 10) 41 rfl co_X6_62 rfl rfl rfl rfl rfl ⟨⟨Nat.le_of_ble_eq_true rfl, Nat.le_of_ble_eq_true rfl⟩, ⟨Nat.le_of_ble_eq_true rfl, Nat.le_of_ble_eq_true rfl⟩, Nat.le_of_ble_eq_true rfl⟩ (cm_X6_goesOn b I17 J18) (fun r26 I27 J28 => ?_)
              refine S.if_eq 89 42 rfl (by decide) (fun _ => ?_) (fun _ => ?_)
              · refine S.sub (lv' := [(0, .ref 10), (4, .int l4)]) [0, 2] rfl ?_
                exact hj25 _ _
              · refine S.iconst (1 : Int32) 43 rfl (by decide) ?_
                refine S.goto 90 44 rfl (by decide) ?_
                refine S.sub (lv' := [(0, .ref 10), (4, .int l4)]) [0, 2] rfl ?_
                exact hj22 _ _ _
def F_X6_read (l1 : Int32) (l2 : Int32) (I : HI) (J : HJ) : Option (Int32 × HI × HJ) :=
  lb (ui I x_reader f_Reader_wide l1) fun I8 =>
  lb (ui I8 x_reader f_Reader_lamps l2) fun I9 =>
  lb (ui I9 x_reader f_Reader_lines (0 : Int32)) fun I10 =>
  lb (ui I10 x_reader f_Reader_at (0 : Int32)) fun I11 =>
  lb (ui I11 x_reader f_Reader_bad (-1 : Int32)) fun I12 =>
  lb (ui I12 x_reader f_Reader_limit (omin (I12 x_text f_Text_size) (76 : Int32))) fun I13 =>
  lb (fun (y14 : Int32) =>
  F_X6_read_L60 (fun (I29 : HI) (J30 : HJ) =>
  lb (fun (I31 : HI) =>
  some ((I31 x_reader f_Reader_bad), I31, J30)) fun j32 =>
  if (I29 x_reader f_Reader_bad) = (-1 : Int32) then
    if (I29 x_text f_Text_size) ≤ (76 : Int32) then
      j32 I29
    else
      lb (ui I29 x_reader f_Reader_bad (76 : Int32)) fun I33 =>
      j32 I33
  else
    j32 I29) bgf y14 (0 : Int32) I13 J) fun j15 =>
  if (I13 x_text f_Text_size) ≤ 0 then
    j15 (0 : Int32)
  else
    j15 (1 : Int32)
set_option maxRecDepth 100000 in
theorem cm_X6_read (b : Bool) (l1 : Int32) (l2 : Int32) (I : HI) (J : HJ) : CM mX6_read 5 0 0 [.ref 10, .int l1, .int l2] (zs b, I, J) (fI (zs b)) (F_X6_read l1 l2 I J) := by
  refine S.of okX6_read pn_X6 (Nat.le_of_ble_eq_true rfl) ?_
  refine S.sub (lv' := [(0, .ref 10), (1, .int l1), (2, .int l2)]) [0, 1, 2] rfl ?_
  unfold F_X6_read
  refine S.aload_n 0 0 rfl rfl ?_
  refine S.iload_n 1 1 rfl rfl ?_
  refine S.putI 2 rfl fo_X6_28 rfl rfl rfl rfl (fun _ hq => by cases hq; exact Or.inl rfl) (fun I8 => ?_)
  refine S.aload_n 3 0 rfl rfl ?_
  refine S.iload_n 4 2 rfl rfl ?_
  refine S.putI 5 rfl fo_X6_32 rfl rfl rfl rfl (fun _ hq => by cases hq; exact Or.inl rfl) (fun I9 => ?_)
  refine S.aload_n 6 0 rfl rfl ?_
  refine S.iconst (0 : Int32) 7 rfl (by decide) ?_
  refine S.putI 8 rfl fo_X6_35 rfl rfl rfl rfl (fun _ hq => by cases hq; exact Or.inl rfl) (fun I10 => ?_)
  refine S.aload_n 9 0 rfl rfl ?_
  refine S.iconst (0 : Int32) 10 rfl (by decide) ?_
  refine S.putI 11 rfl fo_X6_38 rfl rfl rfl rfl (fun _ hq => by cases hq; exact Or.inl rfl) (fun I11 => ?_)
  refine S.aload_n 12 0 rfl rfl ?_
  refine S.iconst (-1 : Int32) 13 rfl (by decide) ?_
  refine S.putI 14 rfl fo_X6_41 rfl rfl rfl rfl (fun _ hq => by cases hq; exact Or.inl rfl) (fun I12 => ?_)
  refine S.aload_n 15 0 rfl rfl ?_
  refine S.aload_n 16 0 rfl rfl ?_
  refine S.getR 17 rfl fo_X6_24 rfl rfl rfl ?_
  refine S.getI 18 rfl fo_X6_44 rfl rfl ?_
  refine S.bipush (76 : Int32) 19 rfl (by decide) ?_
  refine S.mmin 20 rfl co_X6_49 ⟨Nat.le_of_ble_eq_true rfl, Nat.le_of_ble_eq_true rfl, Nat.le_of_ble_eq_true rfl, Nat.le_of_ble_eq_true rfl, Nat.le_of_ble_eq_true rfl⟩ ?_
  refine S.putI 21 rfl fo_X6_55 rfl rfl rfl rfl (fun _ hq => by cases hq; exact Or.inl rfl) (fun I13 => ?_)
  refine S.aload_n 22 0 rfl rfl ?_
  refine S.getR 23 rfl fo_X6_24 rfl rfl rfl ?_
  refine S.getI 24 rfl fo_X6_44 rfl rfl ?_
  refine S.jn (fun j => ∀ (y14 : Int32), S (fI (zs b)) mX6_read (rmd 5 0 0) 0 0 (0, 0) 56 [(0, .ref 10)] [.int y14] (zs b, I13, J) (j y14)) (fun y14 => ?_) (fun j15 hj15 => ?_)
  · refine S.istore_n [(3, .int y14), (0, .ref 10)] 29 rfl (by decide) rfl ?_
    refine S.iconst (0 : Int32) 30 rfl (by decide) ?_
    refine S.istore [(4, .int (0 : Int32)), (3, .int y14), (0, .ref 10)] 31 rfl (by decide) rfl ?_
    refine S.sub (lv' := [(0, .ref 10), (3, .int y14), (4, .int (0 : Int32))]) [2, 1, 0] rfl ?_
    refine s_X6_read_L60 b _ (fun I29 J30 => ?_) bgf _ _ _ _
    refine S.aload_n 49 0 rfl rfl ?_
    refine S.getI 50 rfl fo_X6_41 rfl rfl ?_
    refine S.iconst (-1 : Int32) 51 rfl (by decide) ?_
    refine S.jn (fun j => ∀ (I31 : HI), S (fI (zs b)) mX6_read (rmd 5 0 0) 0 0 (0, 0) 123 [(0, .ref 10)] [] (zs b, I31, J30) (j I31)) (fun I31 => ?_) (fun j32 hj32 => ?_)
    · refine S.aload_n 61 0 rfl rfl ?_
      refine S.getI 62 rfl fo_X6_41 rfl rfl ?_
      exact S.iret 63 rfl rfl rfl (Nat.le_refl _) (Nat.le_refl _) rfl
    · refine S.icmp_ne 123 52 rfl (by decide) (fun _ => ?_) (fun _ => ?_)
      · exact hj32 _
      · refine S.aload_n 53 0 rfl rfl ?_
        refine S.getR 54 rfl fo_X6_24 rfl rfl rfl ?_
        refine S.getI 55 rfl fo_X6_44 rfl rfl ?_
        refine S.bipush (76 : Int32) 56 rfl (by decide) ?_
        refine S.icmp_le 123 57 rfl (by decide) (fun _ => ?_) (fun _ => ?_)
        · exact hj32 _
        · refine S.aload_n 58 0 rfl rfl ?_
          refine S.bipush (76 : Int32) 59 rfl (by decide) ?_
          refine S.putI 60 rfl fo_X6_41 rfl rfl rfl rfl (fun _ hq => by cases hq; exact Or.inl rfl) (fun I33 => ?_)
          exact hj32 _
  · refine S.if_le 55 25 rfl (by decide) (fun _ => ?_) (fun _ => ?_)
    · refine S.iconst (0 : Int32) 28 rfl (by decide) ?_
      refine S.sub (lv' := [(0, .ref 10)]) [0] rfl ?_
      exact hj15 _
    · refine S.iconst (1 : Int32) 26 rfl (by decide) ?_
      refine S.goto 56 27 rfl (by decide) ?_
      refine S.sub (lv' := [(0, .ref 10)]) [0] rfl ?_
      exact hj15 _

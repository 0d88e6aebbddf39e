/-! computations and their proofs: X4 -/
def F_X4_numbered_L5 (l1 : Int64) (I : HI) (J : HJ) : Nat → Int32 → Int32 → Option Int32
  | 0, _, _ => none
  | K+1, l3, l4 =>
    if (I x_parting f_Parting_lamps) ≤ l4 then
      some l3
    else
      bx l4 12 <|
      lb ((l3 ||| (oshl (Int64.toInt32 ((olushr l1 (I x_parting_lampAt (Int32.toNatClampNeg l4))) &&& (1 : Int64))) l4))) fun x2 =>
      F_X4_numbered_L5 l1 I J K x2 (l4 + 1)
set_option maxRecDepth 100000 in
theorem s_X4_numbered_L5 (b : Bool) (l1 : Int64) (I : HI) (J : HJ) : ∀ (K : Nat) (l3 : Int32) (l4 : Int32), S (pI (zs b, I, J)) mX4_numbered (rmd 1 0 0) 0 0 (0, 0) 5 [(0, .ref 36), (1, .long l1), (3, .int l3), (4, .int l4)] [] (zs b, I, J) (F_X4_numbered_L5 l1 I J K l3 l4) := by
  intro K
  induction K with
  | zero => intro l3 l4; exact S.none
  | succ K ih =>
    intro l3 l4
    rw [F_X4_numbered_L5]
    refine S.iload 4 3 rfl rfl ?_
    refine S.aload_n 5 0 rfl rfl ?_
    refine S.getI 6 rfl fo_X4_54 rfl rfl ?_
    refine S.icmp_ge 38 7 rfl (by decide) (fun _ => ?_) (fun _ => ?_)
    · refine S.iload_n 24 2 rfl rfl ?_
      exact S.iret 25 rfl rfl rfl (Nat.le_refl _) (Nat.le_refl _) rfl
    · refine S.iload_n 8 2 rfl rfl ?_
      refine S.lload_n 9 1 rfl rfl ?_
      refine S.aload_n 10 0 rfl rfl ?_
      refine S.getR 11 rfl fo_X4_9 rfl rfl rfl ?_
      refine S.iload 12 3 rfl rfl ?_
      refine S.iald 13 rfl rfl ?_
      refine S.lushr 14 rfl ?_
      refine S.lconst (1 : Int64) 15 rfl (by decide) ?_
      refine S.land 16 rfl ?_
      refine S.l2i 17 rfl ?_
      refine S.iload 18 3 rfl rfl ?_
      refine S.ishl 19 rfl ?_
      refine S.ior 20 rfl ?_
      refine S.nmi (fun x2 => ?_)
      refine S.istore_n [(3, .int x2), (0, .ref 36), (1, .long l1), (4, .int l4)] 21 rfl (by decide) rfl ?_
      refine S.iinc (l4 + 1) [(4, .int (l4 + 1)), (3, .int x2), (0, .ref 36), (1, .long l1)] 22 3 rfl rfl rfl (by decide) rfl ?_
      refine S.goto 5 23 rfl (by decide) ?_
      refine S.sub (lv' := [(0, .ref 36), (1, .long l1), (3, .int x2), (4, .int (l4 + 1))]) [2, 3, 1, 0] rfl ?_
      exact ih _ _
def F_X4_numbered (l1 : Int64) (I : HI) (J : HJ) : Option Int32 :=
  F_X4_numbered_L5 l1 I J bgf (0 : Int32) (0 : Int32)
set_option maxRecDepth 100000 in
theorem cm_X4_numbered (b : Bool) (l1 : Int64) (I : HI) (J : HJ) : CM mX4_numbered 1 0 0 [.ref 36, .long l1] (zs b, I, J) (pI (zs b, I, J)) (F_X4_numbered l1 I J) := by
  refine S.of okX4_numbered pn_X4 (Nat.le_of_ble_eq_true rfl) ?_
  refine S.sub (lv' := [(0, .ref 36), (1, .long l1)]) [0, 1] rfl ?_
  unfold F_X4_numbered
  refine S.iconst (0 : Int32) 0 rfl (by decide) ?_
  refine S.istore_n [(3, .int (0 : Int32)), (0, .ref 36), (1, .long l1)] 1 rfl (by decide) rfl ?_
  refine S.iconst (0 : Int32) 2 rfl (by decide) ?_
  refine S.istore [(4, .int (0 : Int32)), (3, .int (0 : Int32)), (0, .ref 36), (1, .long l1)] 3 rfl (by decide) rfl ?_
  refine S.sub (lv' := [(0, .ref 36), (1, .long l1), (3, .int (0 : Int32)), (4, .int (0 : Int32))]) [2, 3, 1, 0] rfl ?_
  refine s_X4_numbered_L5 b _ _ _ bgf _ _
def F_X4_open_L7 (l1 : Int64) (J : HJ) (kx58 : HI → Option (Unit × HI × HJ)) : Nat → Int32 → HI → Option (Unit × HI × HJ)
  | 0, _, _ => none
  | K+1, l3, I =>
    if (60 : Int32) ≤ l3 then
      kx58 I
    else
      if (12 : Int32) ≤ (I x_parting f_Parting_lamps) then
        kx58 I
      else
        lb (fun (I6 : HI) =>
        F_X4_open_L7 l1 J kx58 K (l3 + 1) I6) fun j7 =>
        if (lg_cmp ((olushr l1 l3) &&& (1 : Int64)) (0 : Int64)) = 0 then
          j7 I
        else
          bx (I x_parting f_Parting_lamps) 12 <|
          lb (ui I x_parting_lampAt (Int32.toNatClampNeg (I x_parting f_Parting_lamps)) l3) fun I8 =>
          lb (ui I8 x_parting f_Parting_lamps ((I8 x_parting f_Parting_lamps) + (1 : Int32))) fun I9 =>
          j7 I9
set_option maxRecDepth 100000 in
theorem s_X4_open_L7 (b : Bool) (l1 : Int64) (J : HJ) (kx58 : HI → Option (Unit × HI × HJ)) (hkx58 : ∀ (I1 : HI), S (fV (zs b)) mX4_open (rmd 2 0 0) 0 0 (0, 0) 58 [(0, .ref 36), (1, .long l1)] [] (zs b, I1, J) (kx58 I1)) : ∀ (K : Nat) (l3 : Int32) (I : HI), S (fV (zs b)) mX4_open (rmd 2 0 0) 0 0 (0, 0) 7 [(0, .ref 36), (1, .long l1), (3, .int l3)] [] (zs b, I, J) (F_X4_open_L7 l1 J kx58 K l3 I) := by
  intro K
  induction K with
  | zero => intro l3 I; exact S.none
  | succ K ih =>
    intro l3 I
    rw [F_X4_open_L7]
    refine S.iload_n 5 2 rfl rfl ?_
    refine S.bipush (60 : Int32) 6 rfl (by decide) ?_
    refine S.icmp_ge 58 7 rfl (by decide) (fun _ => ?_) (fun _ => ?_)
    · refine S.sub (lv' := [(0, .ref 36), (1, .long l1)]) [0, 1] rfl ?_
      exact hkx58 _
    · refine S.aload_n 8 0 rfl rfl ?_
      refine S.getI 9 rfl fo_X4_54 rfl rfl ?_
      refine S.bipush (12 : Int32) 10 rfl (by decide) ?_
      refine S.icmp_ge 58 11 rfl (by decide) (fun _ => ?_) (fun _ => ?_)
      · refine S.sub (lv' := [(0, .ref 36), (1, .long l1)]) [0, 1] rfl ?_
        exact hkx58 _
      · refine S.lload_n 12 1 rfl rfl ?_
        refine S.iload_n 13 2 rfl rfl ?_
        refine S.lushr 14 rfl ?_
        refine S.lconst (1 : Int64) 15 rfl (by decide) ?_
        refine S.land 16 rfl ?_
        refine S.lconst (0 : Int64) 17 rfl (by decide) ?_
        refine S.lcmp 18 rfl ?_
        refine S.jn (fun j => ∀ (I6 : HI), S (fV (zs b)) mX4_open (rmd 2 0 0) 0 0 (0, 0) 52 [(0, .ref 36), (1, .long l1), (3, .int l3)] [] (zs b, I6, J) (j I6)) (fun I6 => ?_) (fun j7 hj7 => ?_)
        · refine S.iinc (l3 + 1) [(3, .int (l3 + 1)), (0, .ref 36), (1, .long l1)] 32 2 rfl rfl rfl (by decide) rfl ?_
          refine S.goto 7 33 rfl (by decide) ?_
          refine S.sub (lv' := [(0, .ref 36), (1, .long l1), (3, .int (l3 + 1))]) [1, 2, 0] rfl ?_
          exact ih _ _
        · refine S.if_eq 52 19 rfl (by decide) (fun _ => ?_) (fun _ => ?_)
          · exact hj7 _
          · refine S.aload_n 20 0 rfl rfl ?_
            refine S.getR 21 rfl fo_X4_9 rfl rfl rfl ?_
            refine S.aload_n 22 0 rfl rfl ?_
            refine S.getI 23 rfl fo_X4_54 rfl rfl ?_
            refine S.iload_n 24 2 rfl rfl ?_
            refine S.iast 25 rfl rfl (fun I8 => ?_)
            refine S.aload_n 26 0 rfl rfl ?_
            refine S.dup 27 rfl rfl ?_
            refine S.getI 28 rfl fo_X4_54 rfl rfl ?_
            refine S.iconst (1 : Int32) 29 rfl (by decide) ?_
            refine S.iadd 30 rfl ?_
            refine S.putI 31 rfl fo_X4_54 rfl rfl rfl rfl (fun _ hq => by cases hq; exact Or.inl rfl) (fun I9 => ?_)
            exact hj7 _
def F_X4_open_L60 (l1 : Int64) (J : HJ) : Nat → Int32 → HI → Option (Unit × HI × HJ)
  | 0, _, _ => none
  | K+1, l3, I =>
    if (I x_table f_Table_size) ≤ l3 then
      some ((), I, J)
    else
      cp (F_X8_isTurn l3 l1 I J) fun r11 =>
      lb (fun (y12 : Int32) (y13 : Int32) =>
      bx y12 2187 <|
      lb (ui I x_parting_cover (Int32.toNatClampNeg y12) y13) fun I15 =>
      F_X4_open_L60 l1 J K (l3 + 1) I15) fun j14 =>
      if r11 = 0 then
        j14 l3 (0 : Int32)
      else
        bx l3 2187 <|
        cp (F_X4_numbered (J x_table_glow (Int32.toNatClampNeg l3)) I J) fun r16 =>
        j14 l3 r16
set_option maxRecDepth 100000 in
theorem s_X4_open_L60 (b : Bool) (l1 : Int64) (J : HJ) : ∀ (K : Nat) (l3 : Int32) (I : HI), S (fV (zs b)) mX4_open (rmd 2 0 0) 0 0 (0, 0) 60 [(0, .ref 36), (1, .long l1), (3, .int l3)] [] (zs b, I, J) (F_X4_open_L60 l1 J K l3 I) := by
  intro K
  induction K with
  | zero => intro l3 I; exact S.none
  | succ K ih =>
    intro l3 I
    rw [F_X4_open_L60]
    refine S.iload_n 36 2 rfl rfl ?_
    refine S.aload_n 37 0 rfl rfl ?_
    refine S.getR 38 rfl fo_X4_46 rfl rfl rfl ?_
    refine S.getI 39 rfl fo_X4_58 rfl rfl ?_
    refine S.icmp_ge 112 40 rfl (by decide) (fun _ => ?_) (fun _ => ?_)
    · exact S.vret 62 rfl rfl (Nat.le_refl _) (Nat.le_refl _) rfl
    · refine S.aload_n 41 0 rfl rfl ?_
      refine S.getR 42 rfl fo_X4_15 rfl rfl rfl ?_
      refine S.iload_n 43 2 rfl rfl ?_
      refine S.aload_n 44 0 rfl rfl ?_
      refine S.getR 45 rfl fo_X4_46 rfl rfl rfl ?_
      refine S.iload_n 46 2 rfl rfl ?_
      refine S.lload_n 47 1 rfl rfl ?_
      refine S.qVI (d := 1) (av := [.int l3, .long l1]) (rs := [.long l1, .int l3]) (b := 30) 48 rfl co_X4_63 rfl rfl rfl rfl rfl ⟨⟨Nat.le_of_ble_eq_true rfl, Nat.le_of_ble_eq_true rfl⟩, ⟨Nat.le_of_ble_eq_true rfl, Nat.le_of_ble_eq_true rfl⟩, Nat.le_of_ble_eq_true rfl⟩ (cm_X8_isTurn b l3 l1 I J) (fun r11 => ?_)
      refine S.jn (fun j => ∀ (y12 : Int32) (y13 : Int32), S (fV (zs b)) mX4_open (rmd 2 0 0) 0 0 (0, 0) 105 [(0, .ref 36), (1, .long l1), (3, .int l3)] [.int y13, .int y12, .ref 38] (zs b, I, J) (j y12 y13)) (fun y12 y13 => ?_) (fun j14 hj14 => ?_)
      · refine S.iast 59 rfl rfl (fun I15 => ?_)
        refine S.iinc (l3 + 1) [(3, .int (l3 + 1)), (0, .ref 36), (1, .long l1)] 60 2 rfl rfl rfl (by decide) rfl ?_
        refine S.goto 60 61 rfl (by decide) ?_
        refine S.sub (lv' := [(0, .ref 36), (1, .long l1), (3, .int (l3 + 1))]) [1, 2, 0] rfl ?_
        exact ih _ _
      · refine S.if_eq 104 49 rfl (by decide) (fun _ => ?_) (fun _ => ?_)
        · refine S.iconst (0 : Int32) 58 rfl (by decide) ?_
          exact hj14 _ _
        · refine S.aload_n 50 0 rfl rfl ?_
          refine S.aload_n 51 0 rfl rfl ?_
          refine S.getR 52 rfl fo_X4_46 rfl rfl rfl ?_
          refine S.getR 53 rfl fo_X4_67 rfl rfl rfl ?_
          refine S.iload_n 54 2 rfl rfl ?_
          refine S.lald 55 rfl rfl ?_
          refine S.qVI (d := 1) (av := [.long (J x_table_glow (Int32.toNatClampNeg l3))]) (rs := [.long (J x_table_glow (Int32.toNatClampNeg l3))]) (b := 36) 56 rfl co_X4_70 rfl rfl rfl rfl rfl ⟨⟨Nat.le_of_ble_eq_true rfl, Nat.le_of_ble_eq_true rfl⟩, ⟨Nat.le_of_ble_eq_true rfl, Nat.le_of_ble_eq_true rfl⟩, Nat.le_of_ble_eq_true rfl⟩ (cm_X4_numbered b (J x_table_glow (Int32.toNatClampNeg l3)) I J) (fun r16 => ?_)
          refine S.goto 105 57 rfl (by decide) ?_
          exact hj14 _ _
def F_X4_open (l1 : Int64) (I : HI) (J : HJ) : Option (Unit × HI × HJ) :=
  lb (ui I x_parting f_Parting_lamps (0 : Int32)) fun I5 =>
  F_X4_open_L7 l1 J (fun (I10 : HI) =>
  F_X4_open_L60 l1 J bgf (0 : Int32) I10) bgf (0 : Int32) I5
set_option maxRecDepth 100000 in
theorem cm_X4_open (b : Bool) (l1 : Int64) (I : HI) (J : HJ) : CM mX4_open 2 0 0 [.ref 36, .long l1] (zs b, I, J) (fV (zs b)) (F_X4_open l1 I J) := by
  refine S.of okX4_open pn_X4 (Nat.le_of_ble_eq_true rfl) ?_
  refine S.sub (lv' := [(0, .ref 36), (1, .long l1)]) [0, 1] rfl ?_
  unfold F_X4_open
  refine S.aload_n 0 0 rfl rfl ?_
  refine S.iconst (0 : Int32) 1 rfl (by decide) ?_
  refine S.putI 2 rfl fo_X4_54 rfl rfl rfl rfl (fun _ hq => by cases hq; exact Or.inl rfl) (fun I5 => ?_)
  refine S.iconst (0 : Int32) 3 rfl (by decide) ?_
  refine S.istore_n [(3, .int (0 : Int32)), (0, .ref 36), (1, .long l1)] 4 rfl (by decide) rfl ?_
  refine S.sub (lv' := [(0, .ref 36), (1, .long l1), (3, .int (0 : Int32))]) [1, 2, 0] rfl ?_
  refine s_X4_open_L7 b _ _ _ (fun I10 => ?_) bgf _ _
  refine S.iconst (0 : Int32) 34 rfl (by decide) ?_
  refine S.istore_n [(3, .int (0 : Int32)), (0, .ref 36), (1, .long l1)] 35 rfl (by decide) rfl ?_
  refine S.sub (lv' := [(0, .ref 36), (1, .long l1), (3, .int (0 : Int32))]) [1, 2, 0] rfl ?_
  refine s_X4_open_L60 b _ _ bgf _ _
def F_X4_addWidest_L2 (l1 : Int32) (I : HI) (J : HJ) (kx30 : Option (Unit × HI × HJ)) : Nat → Int32 → Option (Unit × HI × HJ)
  | 0, _ => none
  | K+1, l2 =>
    if (I x_parting f_Parting_widestSize) ≤ l2 then
      kx30
    else
      bx l2 924 <|
      if (l1 &&& ((I x_parting_widest (Int32.toNatClampNeg l2)) ^^^ (-1 : Int32))) = 0 then
        some ((), I, J)
      else
        F_X4_addWidest_L2 l1 I J kx30 K (l2 + 1)
set_option maxRecDepth 100000 in
theorem s_X4_addWidest_L2 (b : Bool) (l1 : Int32) (I : HI) (J : HJ) (kx30 : Option (Unit × HI × HJ)) (hkx30 : S (fV (zs b)) mX4_addWidest (rmd 1 0 0) 0 0 (0, 0) 30 [(0, .ref 36), (1, .int l1)] [] (zs b, I, J) (kx30)) : ∀ (K : Nat) (l2 : Int32), S (fV (zs b)) mX4_addWidest (rmd 1 0 0) 0 0 (0, 0) 2 [(0, .ref 36), (1, .int l1), (2, .int l2)] [] (zs b, I, J) (F_X4_addWidest_L2 l1 I J kx30 K l2) := by
  intro K
  induction K with
  | zero => intro l2; exact S.none
  | succ K ih =>
    intro l2
    rw [F_X4_addWidest_L2]
    refine S.iload_n 2 2 rfl rfl ?_
    refine S.aload_n 3 0 rfl rfl ?_
    refine S.getI 4 rfl fo_X4_94 rfl rfl ?_
    refine S.icmp_ge 30 5 rfl (by decide) (fun _ => ?_) (fun _ => ?_)
    · refine S.sub (lv' := [(0, .ref 36), (1, .int l1)]) [0, 1] rfl ?_
      exact hkx30
    · refine S.iload_n 6 1 rfl rfl ?_
      refine S.aload_n 7 0 rfl rfl ?_
      refine S.getR 8 rfl fo_X4_18 rfl rfl rfl ?_
      refine S.iload_n 9 2 rfl rfl ?_
      refine S.iald 10 rfl rfl ?_
      refine S.iconst (-1 : Int32) 11 rfl (by decide) ?_
      refine S.ixor 12 rfl ?_
      refine S.iand 13 rfl ?_
      refine S.if_ne 24 14 rfl (by decide) (fun _ => ?_) (fun _ => ?_)
      · refine S.iinc (l2 + 1) [(2, .int (l2 + 1)), (0, .ref 36), (1, .int l1)] 16 2 rfl rfl rfl (by decide) rfl ?_
        refine S.goto 2 17 rfl (by decide) ?_
        refine S.sub (lv' := [(0, .ref 36), (1, .int l1), (2, .int (l2 + 1))]) [1, 2, 0] rfl ?_
        exact ih _
      · exact S.vret 15 rfl rfl (Nat.le_refl _) (Nat.le_refl _) rfl
def F_X4_addWidest_L34 (l1 : Int32) (J : HJ) (kx76 : Int32 → HI → Option (Unit × HI × HJ)) : Nat → Int32 → Int32 → HI → Option (Unit × HI × HJ)
  | 0, _, _, _ => none
  | K+1, l2, l3, I =>
    if (I x_parting f_Parting_widestSize) ≤ l3 then
      kx76 l2 I
    else
      bx l3 924 <|
      lb (fun (y4 : Int32) (I5 : HI) =>
      F_X4_addWidest_L34 l1 J kx76 K y4 (l3 + 1) I5) fun j6 =>
      if ((I x_parting_widest (Int32.toNatClampNeg l3)) &&& (l1 ^^^ (-1 : Int32))) = 0 then
        j6 l2 I
      else
        bx l3 924 <|
        bx l2 924 <|
        lb (ui I x_parting_widest (Int32.toNatClampNeg l2) (I x_parting_widest (Int32.toNatClampNeg l3))) fun I7 =>
        j6 (l2 + 1) I7
set_option maxRecDepth 100000 in
theorem s_X4_addWidest_L34 (b : Bool) (l1 : Int32) (J : HJ) (kx76 : Int32 → HI → Option (Unit × HI × HJ)) (hkx76 : ∀ (y2 : Int32) (I1 : HI), S (fV (zs b)) mX4_addWidest (rmd 1 0 0) 0 0 (0, 0) 76 [(0, .ref 36), (1, .int l1), (2, .int y2)] [] (zs b, I1, J) (kx76 y2 I1)) : ∀ (K : Nat) (l2 : Int32) (l3 : Int32) (I : HI), S (fV (zs b)) mX4_addWidest (rmd 1 0 0) 0 0 (0, 0) 34 [(0, .ref 36), (1, .int l1), (2, .int l2), (3, .int l3)] [] (zs b, I, J) (F_X4_addWidest_L34 l1 J kx76 K l2 l3 I) := by
  intro K
  induction K with
  | zero => intro l2 l3 I; exact S.none
  | succ K ih =>
    intro l2 l3 I
    rw [F_X4_addWidest_L34]
    refine S.iload_n 22 3 rfl rfl ?_
    refine S.aload_n 23 0 rfl rfl ?_
    refine S.getI 24 rfl fo_X4_94 rfl rfl ?_
    refine S.icmp_ge 76 25 rfl (by decide) (fun _ => ?_) (fun _ => ?_)
    · refine S.sub (lv' := [(0, .ref 36), (1, .int l1), (2, .int l2)]) [0, 1, 2] rfl ?_
      exact hkx76 _ _
    · refine S.aload_n 26 0 rfl rfl ?_
      refine S.getR 27 rfl fo_X4_18 rfl rfl rfl ?_
      refine S.iload_n 28 3 rfl rfl ?_
      refine S.iald 29 rfl rfl ?_
      refine S.iload_n 30 1 rfl rfl ?_
      refine S.iconst (-1 : Int32) 31 rfl (by decide) ?_
      refine S.ixor 32 rfl ?_
      refine S.iand 33 rfl ?_
      refine S.jn (fun j => ∀ (y4 : Int32) (I5 : HI), S (fV (zs b)) mX4_addWidest (rmd 1 0 0) 0 0 (0, 0) 70 [(0, .ref 36), (1, .int l1), (2, .int y4), (3, .int l3)] [] (zs b, I5, J) (j y4 I5)) (fun y4 I5 => ?_) (fun j6 hj6 => ?_)
      · refine S.iinc (l3 + 1) [(3, .int (l3 + 1)), (0, .ref 36), (1, .int l1), (2, .int y4)] 44 3 rfl rfl rfl (by decide) rfl ?_
        refine S.goto 34 45 rfl (by decide) ?_
        refine S.sub (lv' := [(0, .ref 36), (1, .int l1), (2, .int y4), (3, .int (l3 + 1))]) [1, 2, 3, 0] rfl ?_
        exact ih _ _ _
      · refine S.if_eq 70 34 rfl (by decide) (fun _ => ?_) (fun _ => ?_)
        · exact hj6 _ _
        · refine S.aload_n 35 0 rfl rfl ?_
          refine S.getR 36 rfl fo_X4_18 rfl rfl rfl ?_
          refine S.iload_n 37 2 rfl rfl ?_
          refine S.aload_n 38 0 rfl rfl ?_
          refine S.getR 39 rfl fo_X4_18 rfl rfl rfl ?_
          refine S.iload_n 40 3 rfl rfl ?_
          refine S.iald 41 rfl rfl ?_
          refine S.iast 42 rfl rfl (fun I7 => ?_)
          refine S.iinc (l2 + 1) [(2, .int (l2 + 1)), (0, .ref 36), (1, .int l1), (3, .int l3)] 43 2 rfl rfl rfl (by decide) rfl ?_
          refine S.sub (lv' := [(0, .ref 36), (1, .int l1), (2, .int (l2 + 1)), (3, .int l3)]) [1, 2, 0, 3] rfl ?_
          exact hj6 _ _
def F_X4_addWidest (l1 : Int32) (I : HI) (J : HJ) : Option (Unit × HI × HJ) :=
  F_X4_addWidest_L2 l1 I J (F_X4_addWidest_L34 l1 J (fun (y8 : Int32) (I9 : HI) =>
  lb (fun (y10 : Int32) (I11 : HI) =>
  lb (ui I11 x_parting f_Parting_widestSize y10) fun I13 =>
  some ((), I13, J)) fun j12 =>
  if (924 : Int32) ≤ y8 then
    j12 y8 I9
  else
    bx y8 924 <|
    lb (ui I9 x_parting_widest (Int32.toNatClampNeg y8) l1) fun I14 =>
    j12 (y8 + 1) I14) bgf (0 : Int32) (0 : Int32) I) bgf (0 : Int32)
set_option maxRecDepth 100000 in
theorem cm_X4_addWidest (b : Bool) (l1 : Int32) (I : HI) (J : HJ) : CM mX4_addWidest 1 0 0 [.ref 36, .int l1] (zs b, I, J) (fV (zs b)) (F_X4_addWidest l1 I J) := by
  refine S.of okX4_addWidest pn_X4 (Nat.le_of_ble_eq_true rfl) ?_
  refine S.sub (lv' := [(0, .ref 36), (1, .int l1)]) [0, 1] rfl ?_
  unfold F_X4_addWidest
  refine S.iconst (0 : Int32) 0 rfl (by decide) ?_
  refine S.istore_n [(2, .int (0 : Int32)), (0, .ref 36), (1, .int l1)] 1 rfl (by decide) rfl ?_
  refine S.sub (lv' := [(0, .ref 36), (1, .int l1), (2, .int (0 : Int32))]) [1, 2, 0] rfl ?_
  refine s_X4_addWidest_L2 b _ _ _ _ ?_ bgf _
  refine S.iconst (0 : Int32) 18 rfl (by decide) ?_
  refine S.istore_n [(2, .int (0 : Int32)), (0, .ref 36), (1, .int l1)] 19 rfl (by decide) rfl ?_
  refine S.iconst (0 : Int32) 20 rfl (by decide) ?_
  refine S.istore_n [(3, .int (0 : Int32)), (2, .int (0 : Int32)), (0, .ref 36), (1, .int l1)] 21 rfl (by decide) rfl ?_
  refine S.sub (lv' := [(0, .ref 36), (1, .int l1), (2, .int (0 : Int32)), (3, .int (0 : Int32))]) [2, 3, 1, 0] rfl ?_
  refine s_X4_addWidest_L34 b _ _ _ (fun y8 I9 => ?_) bgf _ _ _
  refine S.iload_n 46 2 rfl rfl ?_
  refine S.aload_n 47 0 rfl rfl ?_
  refine S.getR 48 rfl fo_X4_18 rfl rfl rfl ?_
  refine S.alen (924 : Int32) 49 rfl rfl (by decide) (by decide) (by decide) ?_
  refine S.jn (fun j => ∀ (y10 : Int32) (I11 : HI), S (fV (zs b)) mX4_addWidest (rmd 1 0 0) 0 0 (0, 0) 95 [(0, .ref 36), (2, .int y10)] [] (zs b, I11, J) (j y10 I11)) (fun y10 I11 => ?_) (fun j12 hj12 => ?_)
  · refine S.aload_n 57 0 rfl rfl ?_
    refine S.iload_n 58 1 rfl rfl ?_
    refine S.putI 59 rfl fo_X4_94 rfl rfl rfl rfl (fun _ hq => by cases hq; exact Or.inl rfl) (fun I13 => ?_)
    exact S.vret 60 rfl rfl (Nat.le_refl _) (Nat.le_refl _) rfl
  · refine S.icmp_ge 95 50 rfl (by decide) (fun _ => ?_) (fun _ => ?_)
    · refine S.sub (lv' := [(0, .ref 36), (2, .int y8)]) [0, 2] rfl ?_
      exact hj12 _ _
    · refine S.aload_n 51 0 rfl rfl ?_
      refine S.getR 52 rfl fo_X4_18 rfl rfl rfl ?_
      refine S.iload_n 53 2 rfl rfl ?_
      refine S.iload_n 54 1 rfl rfl ?_
      refine S.iast 55 rfl rfl (fun I14 => ?_)
      refine S.iinc (y8 + 1) [(2, .int (y8 + 1)), (0, .ref 36), (1, .int l1)] 56 2 rfl rfl rfl (by decide) rfl ?_
      refine S.sub (lv' := [(0, .ref 36), (2, .int (y8 + 1))]) [1, 0] rfl ?_
      exact hj12 _ _
def F_X4_findWidest_L7  : Nat → Int32 → HI → HJ → Option (Unit × HI × HJ)
  | 0, _, _, _ => none
  | K+1, l1, I, J =>
    if (I x_table f_Table_size) ≤ l1 then
      some ((), I, J)
    else
      bx l1 2187 <|
      lb (fun (I3 : HI) (J4 : HJ) =>
      F_X4_findWidest_L7 K (l1 + 1) I3 J4) fun j5 =>
      if (I x_parting_cover (Int32.toNatClampNeg l1)) = 0 then
        j5 I J
      else
        bx l1 2187 <|
        cl (F_X4_addWidest (I x_parting_cover (Int32.toNatClampNeg l1)) I J) fun _ I6 J7 =>
        j5 I6 J7
set_option maxRecDepth 100000 in
theorem s_X4_findWidest_L7 (b : Bool)  : ∀ (K : Nat) (l1 : Int32) (I : HI) (J : HJ), S (fV (zs b)) mX4_findWidest (rmd 2 0 0) 0 0 (0, 0) 7 [(0, .ref 36), (1, .int l1)] [] (zs b, I, J) (F_X4_findWidest_L7 K l1 I J) := by
  intro K
  induction K with
  | zero => intro l1 I J; exact S.none
  | succ K ih =>
    intro l1 I J
    rw [F_X4_findWidest_L7]
    refine S.iload_n 5 1 rfl rfl ?_
    refine S.aload_n 6 0 rfl rfl ?_
    refine S.getR 7 rfl fo_X4_46 rfl rfl rfl ?_
    refine S.getI 8 rfl fo_X4_58 rfl rfl ?_
    refine S.icmp_ge 43 9 rfl (by decide) (fun _ => ?_) (fun _ => ?_)
    · exact S.vret 23 rfl rfl (Nat.le_refl _) (Nat.le_refl _) rfl
    · refine S.aload_n 10 0 rfl rfl ?_
      refine S.getR 11 rfl fo_X4_15 rfl rfl rfl ?_
      refine S.iload_n 12 1 rfl rfl ?_
      refine S.iald 13 rfl rfl ?_
      refine S.jn (fun j => ∀ (I3 : HI) (J4 : HJ), S (fV (zs b)) mX4_findWidest (rmd 2 0 0) 0 0 (0, 0) 37 [(0, .ref 36), (1, .int l1)] [] (zs b, I3, J4) (j I3 J4)) (fun I3 J4 => ?_) (fun j5 hj5 => ?_)
      · refine S.iinc (l1 + 1) [(1, .int (l1 + 1)), (0, .ref 36)] 21 1 rfl rfl rfl (by decide) rfl ?_
        refine S.goto 7 22 rfl (by decide) ?_
        refine S.sub (lv' := [(0, .ref 36), (1, .int (l1 + 1))]) [1, 0] rfl ?_
        exact ih _ _ _
      · refine S.if_eq 37 14 rfl (by decide) (fun _ => ?_) (fun _ => ?_)
        · exact hj5 _ _
        · refine S.aload_n 15 0 rfl rfl ?_
          refine S.aload_n 16 0 rfl rfl ?_
          refine S.getR 17 rfl fo_X4_15 rfl rfl rfl ?_
          refine S.iload_n 18 1 rfl rfl ?_
          refine S.iald 19 rfl rfl ?_
          refine S.cVV (d := 1) (av := [.int (I x_parting_cover (Int32.toNatClampNeg l1))]) (rs := [.int (I x_parting_cover (Int32.toNatClampNeg l1))]) (b := 36) 20 rfl co_X4_97 rfl rfl rfl rfl rfl ⟨⟨Nat.le_of_ble_eq_true rfl, Nat.le_of_ble_eq_true rfl⟩, ⟨Nat.le_of_ble_eq_true rfl, Nat.le_of_ble_eq_true rfl⟩, Nat.le_of_ble_eq_true rfl⟩ (cm_X4_addWidest b (I x_parting_cover (Int32.toNatClampNeg l1)) I J) (fun _ I6 J7 => ?_)
          exact hj5 _ _
def F_X4_findWidest  (I : HI) (J : HJ) : Option (Unit × HI × HJ) :=
  lb (ui I x_parting f_Parting_widestSize (0 : Int32)) fun I2 =>
  F_X4_findWidest_L7 bgf (0 : Int32) I2 J
set_option maxRecDepth 100000 in
theorem cm_X4_findWidest (b : Bool)  (I : HI) (J : HJ) : CM mX4_findWidest 2 0 0 [.ref 36] (zs b, I, J) (fV (zs b)) (F_X4_findWidest  I J) := by
  refine S.of okX4_findWidest pn_X4 (Nat.le_of_ble_eq_true rfl) ?_
  refine S.sub (lv' := [(0, .ref 36)]) [0] rfl ?_
  unfold F_X4_findWidest
  refine S.aload_n 0 0 rfl rfl ?_
  refine S.iconst (0 : Int32) 1 rfl (by decide) ?_
  refine S.putI 2 rfl fo_X4_94 rfl rfl rfl rfl (fun _ hq => by cases hq; exact Or.inl rfl) (fun I2 => ?_)
  refine S.iconst (0 : Int32) 3 rfl (by decide) ?_
  refine S.istore_n [(1, .int (0 : Int32)), (0, .ref 36)] 4 rfl (by decide) rfl ?_
  refine S.sub (lv' := [(0, .ref 36), (1, .int (0 : Int32))]) [1, 0] rfl ?_
  refine s_X4_findWidest_L7 b bgf _ _ _
def F_X4_fewestFor_L41 (rc : Int32 → Int32 → HI → HJ → Option (Int32 × HI × HJ)) (l1 : Int32) (l2 : Int32) (l3 : Int32) (kx95 : Int32 → HI → HJ → Option (Int32 × HI × HJ)) : Nat → Int32 → Int32 → HI → HJ → Option (Int32 × HI × HJ)
  | 0, _, _, _, _ => none
  | K+1, l4, l5, I, J =>
    if (I x_parting f_Parting_widestSize) ≤ l5 then
      kx95 l4 I J
    else
      bx l5 924 <|
      lb (fun (y6 : Int32) (I7 : HI) (J8 : HJ) =>
      F_X4_fewestFor_L41 rc l1 l2 l3 kx95 K y6 (l5 + 1) I7 J8) fun j9 =>
      if ((I x_parting_widest (Int32.toNatClampNeg l5)) &&& l3) = 0 then
        j9 l4 I J
      else
        bx l5 924 <|
        cl (rc (l1 &&& ((I x_parting_widest (Int32.toNatClampNeg l5)) ^^^ (-1 : Int32))) (l2 + (1 : Int32)) I J) fun r10 I11 J12 =>
        lb ((omin l4 (r10 + (1 : Int32)))) fun x13 =>
        j9 x13 I11 J12
set_option maxRecDepth 100000 in
theorem s_X4_fewestFor_L41 (b : Bool) (rc : Int32 → Int32 → HI → HJ → Option (Int32 × HI × HJ)) (dn : Nat) (hdn : 1 ≤ dn) (hrc : ∀ (a0 : Int32) (a1 : Int32) (I : HI) (J : HJ), CM mX4_fewestFor dn 0 0 [.ref 36, .int a0, .int a1] (zs b, I, J) (fI (zs b)) (rc a0 a1 I J)) (l1 : Int32) (l2 : Int32) (l3 : Int32) (kx95 : Int32 → HI → HJ → Option (Int32 × HI × HJ)) (hkx95 : ∀ (y4 : Int32) (I1 : HI) (J1 : HJ), S (fI (zs b)) mX4_fewestFor (rmd (dn + 1) 0 0) 0 0 (0, 0) 95 [(0, .ref 36), (1, .int l1), (4, .int y4)] [] (zs b, I1, J1) (kx95 y4 I1 J1)) : ∀ (K : Nat) (l4 : Int32) (l5 : Int32) (I : HI) (J : HJ), S (fI (zs b)) mX4_fewestFor (rmd (dn + 1) 0 0) 0 0 (0, 0) 41 [(0, .ref 36), (1, .int l1), (2, .int l2), (3, .int l3), (4, .int l4), (5, .int l5)] [] (zs b, I, J) (F_X4_fewestFor_L41 rc l1 l2 l3 kx95 K l4 l5 I J) := by
  intro K
  induction K with
  | zero => intro l4 l5 I J; exact S.none
  | succ K ih =>
    intro l4 l5 I J
    rw [F_X4_fewestFor_L41]
    refine S.iload 27 5 rfl rfl ?_
    refine S.aload_n 28 0 rfl rfl ?_
    refine S.getI 29 rfl fo_X4_94 rfl rfl ?_
    refine S.icmp_ge 95 30 rfl (by decide) (fun _ => ?_) (fun _ => ?_)
    · refine S.sub (lv' := [(0, .ref 36), (1, .int l1), (4, .int l4)]) [0, 1, 4] rfl ?_
      exact hkx95 _ _ _
    · refine S.aload_n 31 0 rfl rfl ?_
      refine S.getR 32 rfl fo_X4_18 rfl rfl rfl ?_
      refine S.iload 33 5 rfl rfl ?_
      refine S.iald 34 rfl rfl ?_
      refine S.iload_n 35 3 rfl rfl ?_
      refine S.iand 36 rfl ?_
      refine S.jn (fun j => ∀ (y6 : Int32) (I7 : HI) (J8 : HJ), S (fI (zs b)) mX4_fewestFor (rmd (dn + 1) 0 0) 0 0 (0, 0) 89 [(0, .ref 36), (1, .int l1), (2, .int l2), (3, .int l3), (4, .int y6), (5, .int l5)] [] (zs b, I7, J8) (j y6 I7 J8)) (fun y6 I7 J8 => ?_) (fun j9 hj9 => ?_)
      · refine S.iinc (l5 + 1) [(5, .int (l5 + 1)), (0, .ref 36), (1, .int l1), (2, .int l2), (3, .int l3), (4, .int y6)] 56 5 rfl rfl rfl (by decide) rfl ?_
        refine S.goto 41 57 rfl (by decide) ?_
        refine S.sub (lv' := [(0, .ref 36), (1, .int l1), (2, .int l2), (3, .int l3), (4, .int y6), (5, .int (l5 + 1))]) [1, 2, 3, 4, 5, 0] rfl ?_
        exact ih _ _ _ _
      · refine S.if_eq 89 37 rfl (by decide) (fun _ => ?_) (fun _ => ?_)
        · exact hj9 _ _ _
        · refine S.iload 38 4 rfl rfl ?_
          refine S.aload_n 39 0 rfl rfl ?_
          refine S.iload_n 40 1 rfl rfl ?_
          refine S.aload_n 41 0 rfl rfl ?_
          refine S.getR 42 rfl fo_X4_18 rfl rfl rfl ?_
          refine S.iload 43 5 rfl rfl ?_
          refine S.iald 44 rfl rfl ?_
          refine S.iconst (-1 : Int32) 45 rfl (by decide) ?_
          refine S.ixor 46 rfl ?_
          refine S.iand 47 rfl ?_
          refine S.iload_n 48 2 rfl rfl ?_
          refine S.iconst (1 : Int32) 49 rfl (by decide) ?_
          refine S.iadd 50 rfl ?_
          refine S.cVI (d := dn) (av := [.int (l1 &&& ((I x_parting_widest (Int32.toNatClampNeg l5)) ^^^ (-1 : Int32))), .int (l2 + (1 : Int32))]) (rs := [.int (l2 + (1 : Int32)), .int (l1 &&& ((I x_parting_widest (Int32.toNatClampNeg l5)) ^^^ (-1 : Int32)))]) (b := 36) 51 rfl co_X4_83 rfl rfl rfl rfl rfl ⟨⟨by show dn + 1 ≤ dn + 1; omega, by show 8 + (6 + 11) + 64 * (dn) ≤ 64 * (dn + 1); omega⟩, ⟨Nat.le_refl _, Nat.le_refl _⟩, Nat.le_of_ble_eq_true rfl⟩ (hrc (l1 &&& ((I x_parting_widest (Int32.toNatClampNeg l5)) ^^^ (-1 : Int32))) (l2 + (1 : Int32)) I J) (fun r10 I11 J12 => ?_)
          refine S.iconst (1 : Int32) 52 rfl (by decide) ?_
          refine S.iadd 53 rfl ?_
          refine S.mmin 54 rfl co_X4_100 ⟨by show 1 ≤ dn + 1; omega, by show 23 ≤ 64 * (dn + 1); omega, Nat.le_refl _, Nat.le_refl _, Nat.le_of_ble_eq_true rfl⟩ ?_
          refine S.nmi (fun x13 => ?_)
          refine S.istore [(4, .int x13), (0, .ref 36), (1, .int l1), (2, .int l2), (3, .int l3), (5, .int l5)] 55 rfl (by decide) rfl ?_
          refine S.sub (lv' := [(0, .ref 36), (1, .int l1), (2, .int l2), (3, .int l3), (4, .int x13), (5, .int l5)]) [1, 2, 3, 4, 0, 5] rfl ?_
          exact hj9 _ _ _
def F_X4_fewestFor_B (rc : Int32 → Int32 → HI → HJ → Option (Int32 × HI × HJ)) (l1 : Int32) (l2 : Int32) (I : HI) (J : HJ) : Option (Int32 × HI × HJ) :=
  if l1 = 0 then
    some ((0 : Int32), I, J)
  else
    bx l1 4096 <|
    lb (
    bx l1 4096 <|
    some ((I x_parting_fewest (Int32.toNatClampNeg l1)), I, J)) fun j4 =>
    if (I x_parting_fewest (Int32.toNatClampNeg l1)) = (-1 : Int32) then
      if l2 ≤ (12 : Int32) then
        lb ((l1 &&& (-l1))) fun x5 =>
        F_X4_fewestFor_L41 rc l1 l2 x5 (fun (y14 : Int32) (I15 : HI) (J16 : HJ) =>
        bx l1 4096 <|
        lb (ui I15 x_parting_fewest (Int32.toNatClampNeg l1) y14) fun I17 =>
        some (y14, I17, J16)) bgf (99 : Int32) (0 : Int32) I J
      else
        j4
    else
      j4
set_option maxRecDepth 100000 in
theorem cm_X4_fewestFor_B (b : Bool) (rc : Int32 → Int32 → HI → HJ → Option (Int32 × HI × HJ)) (dn : Nat) (hdn : 1 ≤ dn) (hrc : ∀ (a0 : Int32) (a1 : Int32) (I : HI) (J : HJ), CM mX4_fewestFor dn 0 0 [.ref 36, .int a0, .int a1] (zs b, I, J) (fI (zs b)) (rc a0 a1 I J)) (l1 : Int32) (l2 : Int32) (I : HI) (J : HJ) : CM mX4_fewestFor (dn + 1) 0 0 [.ref 36, .int l1, .int l2] (zs b, I, J) (fI (zs b)) (F_X4_fewestFor_B rc l1 l2 I J) := by
  refine S.of okX4_fewestFor pn_X4 (Nat.le_of_ble_eq_true rfl) ?_
  refine S.sub (lv' := [(0, .ref 36), (1, .int l1), (2, .int l2)]) [0, 1, 2] rfl ?_
  unfold F_X4_fewestFor_B
  refine S.iload_n 0 1 rfl rfl ?_
  refine S.if_ne 6 1 rfl (by decide) (fun _ => ?_) (fun _ => ?_)
  · refine S.aload_n 4 0 rfl rfl ?_
    refine S.getR 5 rfl fo_X4_21 rfl rfl rfl ?_
    refine S.iload_n 6 1 rfl rfl ?_
    refine S.iald 7 rfl rfl ?_
    refine S.iconst (-1 : Int32) 8 rfl (by decide) ?_
    refine S.jn (fun j => S (fI (zs b)) mX4_fewestFor (rmd (dn + 1) 0 0) 0 0 (0, 0) 22 [(0, .ref 36), (1, .int l1)] [] (zs b, I, J) (j)) ?_ (fun j4 hj4 => ?_)
    · refine S.aload_n 13 0 rfl rfl ?_
      refine S.getR 14 rfl fo_X4_21 rfl rfl rfl ?_
      refine S.iload_n 15 1 rfl rfl ?_
      refine S.iald 16 rfl rfl ?_
      exact S.iret 17 rfl rfl rfl (Nat.le_refl _) (Nat.le_refl _) rfl
    · refine S.icmp_ne 22 9 rfl (by decide) (fun _ => ?_) (fun _ => ?_)
      · refine S.sub (lv' := [(0, .ref 36), (1, .int l1)]) [0, 1] rfl ?_
        exact hj4
      · refine S.iload_n 10 2 rfl rfl ?_
        refine S.bipush (12 : Int32) 11 rfl (by decide) ?_
        refine S.icmp_le 29 12 rfl (by decide) (fun _ => ?_) (fun _ => ?_)
        · refine S.iload_n 18 1 rfl rfl ?_
          refine S.iload_n 19 1 rfl rfl ?_
          refine S.ineg 20 rfl ?_
          refine S.iand 21 rfl ?_
          refine S.nmi (fun x5 => ?_)
          refine S.istore_n [(3, .int x5), (0, .ref 36), (1, .int l1), (2, .int l2)] 22 rfl (by decide) rfl ?_
          refine S.bipush (99 : Int32) 23 rfl (by decide) ?_
          refine S.istore [(4, .int (99 : Int32)), (3, .int x5), (0, .ref 36), (1, .int l1), (2, .int l2)] 24 rfl (by decide) rfl ?_
          refine S.iconst (0 : Int32) 25 rfl (by decide) ?_
          refine S.istore [(5, .int (0 : Int32)), (4, .int (99 : Int32)), (3, .int x5), (0, .ref 36), (1, .int l1), (2, .int l2)] 26 rfl (by decide) rfl ?_
          refine S.sub (lv' := [(0, .ref 36), (1, .int l1), (2, .int l2), (3, .int x5), (4, .int (99 : Int32)), (5, .int (0 : Int32))]) [3, 4, 5, 2, 1, 0] rfl ?_
          refine s_X4_fewestFor_L41 b rc dn hdn hrc _ _ _ _ (fun y14 I15 J16 => ?_) bgf _ _ _ _
          refine S.aload_n 58 0 rfl rfl ?_
          refine S.getR 59 rfl fo_X4_21 rfl rfl rfl ?_
          refine S.iload_n 60 1 rfl rfl ?_
          refine S.iload 61 2 rfl rfl ?_
          refine S.iast 62 rfl rfl (fun I17 => ?_)
          refine S.iload 63 2 rfl rfl ?_
          exact S.iret 64 rfl rfl rfl (Nat.le_refl _) (Nat.le_refl _) rfl
        · refine S.sub (lv' := [(0, .ref 36), (1, .int l1)]) [0, 1] rfl ?_
          exact hj4
  · refine S.iconst (0 : Int32) 2 rfl (by decide) ?_
    exact S.iret 3 rfl rfl rfl (Nat.le_refl _) (Nat.le_refl _) rfl
def F_X4_fewestFor : Nat → Int32 → Int32 → HI → HJ → Option (Int32 × HI × HJ)
  | 0, _, _, _, _ => none
  | n+1, l1, l2, I, J => F_X4_fewestFor_B (F_X4_fewestFor n) l1 l2 I J
theorem cm_X4_fewestFor (b : Bool) : ∀ (n : Nat) (l1 : Int32) (l2 : Int32) (I : HI) (J : HJ), CM mX4_fewestFor (1 + 1 * n) 0 0 [.ref 36, .int l1, .int l2] (zs b, I, J) (fI (zs b)) (F_X4_fewestFor n l1 l2 I J) := by
  intro n
  induction n with
  | zero => intro l1 l2 I J r hf; cases hf
  | succ n ih =>
    intro l1 l2 I J
    have e : 1 + 1 * (n + 1) = 1 + 1 * n + 1 := by omega
    rw [e]
    exact cm_X4_fewestFor_B b (F_X4_fewestFor n) (1 + 1 * n) (by omega) (ih) l1 l2 I J
def F_X4_choose_L7  : Nat → Int32 → Int32 → Int32 → HI → HJ → Option (Unit × HI × HJ)
  | 0, _, _, _, _, _ => none
  | K+1, l2, l3, l4, I, J =>
    if (I x_table f_Table_size) ≤ l4 then
      some ((), I, J)
    else
      if (I x_parting f_Parting_turns) ≤ l3 then
        some ((), I, J)
      else
        bx l4 2187 <|
        lb ((l2 &&& ((I x_parting_cover (Int32.toNatClampNeg l4)) ^^^ (-1 : Int32)))) fun x3 =>
        lb (fun (y4 : Int32) (y5 : Int32) (I6 : HI) (J7 : HJ) =>
        F_X4_choose_L7 K y4 y5 (l4 + 1) I6 J7) fun j8 =>
        if x3 = l2 then
          j8 l2 l3 I J
        else
          cl (F_X4_fewestFor 20 x3 (0 : Int32) I J) fun r9 I10 J11 =>
          if r9 = (((I10 x_parting f_Parting_turns) - l3) - (1 : Int32)) then
            bx l3 12 <|
            lb (ui I10 x_parting_chosen (Int32.toNatClampNeg l3) l4) fun I12 =>
            j8 x3 (l3 + 1) I12 J11
          else
            j8 l2 l3 I10 J11
set_option maxRecDepth 100000 in
theorem s_X4_choose_L7 (b : Bool)  : ∀ (K : Nat) (l2 : Int32) (l3 : Int32) (l4 : Int32) (I : HI) (J : HJ), S (fV (zs b)) mX4_choose (rmd 22 0 0) 0 0 (0, 0) 7 [(0, .ref 36), (2, .int l2), (3, .int l3), (4, .int l4)] [] (zs b, I, J) (F_X4_choose_L7 K l2 l3 l4 I J) := by
  intro K
  induction K with
  | zero => intro l2 l3 l4 I J; exact S.none
  | succ K ih =>
    intro l2 l3 l4 I J
    rw [F_X4_choose_L7]
    refine S.iload 6 3 rfl rfl ?_
    refine S.aload_n 7 0 rfl rfl ?_
    refine S.getR 8 rfl fo_X4_46 rfl rfl rfl ?_
    refine S.getI 9 rfl fo_X4_58 rfl rfl ?_
    refine S.icmp_ge 84 10 rfl (by decide) (fun _ => ?_) (fun _ => ?_)
    · exact S.vret 48 rfl rfl (Nat.le_refl _) (Nat.le_refl _) rfl
    · refine S.iload_n 11 2 rfl rfl ?_
      refine S.aload_n 12 0 rfl rfl ?_
      refine S.getI 13 rfl fo_X4_87 rfl rfl ?_
      refine S.icmp_ge 84 14 rfl (by decide) (fun _ => ?_) (fun _ => ?_)
      · exact S.vret 48 rfl rfl (Nat.le_refl _) (Nat.le_refl _) rfl
      · refine S.iload_n 15 1 rfl rfl ?_
        refine S.aload_n 16 0 rfl rfl ?_
        refine S.getR 17 rfl fo_X4_15 rfl rfl rfl ?_
        refine S.iload 18 3 rfl rfl ?_
        refine S.iald 19 rfl rfl ?_
        refine S.iconst (-1 : Int32) 20 rfl (by decide) ?_
        refine S.ixor 21 rfl ?_
        refine S.iand 22 rfl ?_
        refine S.nmi (fun x3 => ?_)
        refine S.istore [(5, .int x3), (0, .ref 36), (2, .int l2), (3, .int l3), (4, .int l4)] 23 rfl (by decide) rfl ?_
        refine S.iload 24 0 rfl rfl ?_
        refine S.iload_n 25 2 rfl rfl ?_
        refine S.jn (fun j => ∀ (y4 : Int32) (y5 : Int32) (I6 : HI) (J7 : HJ), S (fV (zs b)) mX4_choose (rmd 22 0 0) 0 0 (0, 0) 78 [(0, .ref 36), (2, .int y4), (3, .int y5), (4, .int l4)] [] (zs b, I6, J7) (j y4 y5 I6 J7)) (fun y4 y5 I6 J7 => ?_) (fun j8 hj8 => ?_)
        · refine S.iinc (l4 + 1) [(4, .int (l4 + 1)), (0, .ref 36), (2, .int y4), (3, .int y5)] 46 3 rfl rfl rfl (by decide) rfl ?_
          refine S.goto 7 47 rfl (by decide) ?_
          refine S.sub (lv' := [(0, .ref 36), (2, .int y4), (3, .int y5), (4, .int (l4 + 1))]) [1, 2, 3, 0] rfl ?_
          exact ih _ _ _ _ _
        · refine S.icmp_eq 78 26 rfl (by decide) (fun _ => ?_) (fun _ => ?_)
          · refine S.sub (lv' := [(0, .ref 36), (2, .int l2), (3, .int l3), (4, .int l4)]) [1, 2, 3, 4] rfl ?_
            exact hj8 _ _ _ _
          · refine S.aload_n 27 1 rfl rfl ?_
            refine S.iload 28 0 rfl rfl ?_
            refine S.iconst (0 : Int32) 29 rfl (by decide) ?_
            refine S.cVI (d := 21) (av := [.int x3, .int (0 : Int32)]) (rs := [.int (0 : Int32), .int x3]) (b := 36) 30 rfl co_X4_83 rfl rfl rfl rfl rfl ⟨⟨Nat.le_of_ble_eq_true rfl, Nat.le_of_ble_eq_true rfl⟩, ⟨Nat.le_of_ble_eq_true rfl, Nat.le_of_ble_eq_true rfl⟩, Nat.le_of_ble_eq_true rfl⟩ (cm_X4_fewestFor b 20 x3 (0 : Int32) I J) (fun r9 I10 J11 => ?_)
            refine S.aload_n 31 1 rfl rfl ?_
            refine S.getI 32 rfl fo_X4_87 rfl rfl ?_
            refine S.iload_n 33 3 rfl rfl ?_
            refine S.isub 34 rfl ?_
            refine S.iconst (1 : Int32) 35 rfl (by decide) ?_
            refine S.isub 36 rfl ?_
            refine S.icmp_ne 78 37 rfl (by decide) (fun _ => ?_) (fun _ => ?_)
            · refine S.sub (lv' := [(0, .ref 36), (2, .int l2), (3, .int l3), (4, .int l4)]) [1, 2, 3, 4] rfl ?_
              exact hj8 _ _ _ _
            · refine S.aload_n 38 1 rfl rfl ?_
              refine S.getR 39 rfl fo_X4_27 rfl rfl rfl ?_
              refine S.iload_n 40 3 rfl rfl ?_
              refine S.iload 41 4 rfl rfl ?_
              refine S.iast 42 rfl rfl (fun I12 => ?_)
              refine S.iinc (l3 + 1) [(3, .int (l3 + 1)), (5, .int x3), (0, .ref 36), (2, .int l2), (4, .int l4)] 43 3 rfl rfl rfl (by decide) rfl ?_
              refine S.iload 44 1 rfl rfl ?_
              refine S.istore_n [(2, .int x3), (3, .int (l3 + 1)), (5, .int x3), (0, .ref 36), (4, .int l4)] 45 rfl (by decide) rfl ?_
              refine S.sub (lv' := [(0, .ref 36), (2, .int x3), (3, .int (l3 + 1)), (4, .int l4)]) [3, 0, 1, 4] rfl ?_
              exact hj8 _ _ _ _
def F_X4_choose (l1 : Int32) (I : HI) (J : HJ) : Option (Unit × HI × HJ) :=
  F_X4_choose_L7 bgf l1 (0 : Int32) (0 : Int32) I J
set_option maxRecDepth 100000 in
theorem cm_X4_choose (b : Bool) (l1 : Int32) (I : HI) (J : HJ) : CM mX4_choose 22 0 0 [.ref 36, .int l1] (zs b, I, J) (fV (zs b)) (F_X4_choose l1 I J) := by
  refine S.of okX4_choose pn_X4 (Nat.le_of_ble_eq_true rfl) ?_
  refine S.sub (lv' := [(0, .ref 36), (1, .int l1)]) [0, 1] rfl ?_
  unfold F_X4_choose
  refine S.iload_n 0 1 rfl rfl ?_
  refine S.istore_n [(2, .int l1), (0, .ref 36), (1, .int l1)] 1 rfl (by decide) rfl ?_
  refine S.iconst (0 : Int32) 2 rfl (by decide) ?_
  refine S.istore_n [(3, .int (0 : Int32)), (2, .int l1), (0, .ref 36), (1, .int l1)] 3 rfl (by decide) rfl ?_
  refine S.iconst (0 : Int32) 4 rfl (by decide) ?_
  refine S.istore [(4, .int (0 : Int32)), (3, .int (0 : Int32)), (2, .int l1), (0, .ref 36), (1, .int l1)] 5 rfl (by decide) rfl ?_
  refine S.sub (lv' := [(0, .ref 36), (2, .int l1), (3, .int (0 : Int32)), (4, .int (0 : Int32))]) [3, 2, 1, 0] rfl ?_
  refine s_X4_choose_L7 b bgf _ _ _ _ _
def F_X4_part  (I : HI) (J : HJ) : Option (Int32 × HI × HJ) :=
  cl (F_X4_findWidest I J) fun _ I4 J5 =>
  lb (((oshl (1 : Int32) (I4 x_parting f_Parting_lamps)) - (1 : Int32))) fun x6 =>
  cl (F_J7_fill_fda19_40 (0 : Int32) (x6 + (1 : Int32)) (-1 : Int32) I4 J5) fun _ I7 J8 =>
  cl (F_X4_fewestFor 20 x6 (0 : Int32) I7 J8) fun r9 I10 J11 =>
  lb (ui I10 x_parting f_Parting_turns r9) fun I12 =>
  if (I12 x_parting f_Parting_turns) < (99 : Int32) then
    cl (F_X4_choose x6 I12 J11) fun _ I13 J14 =>
    some ((I13 x_parting f_Parting_turns), I13, J14)
  else
    lb (ui I12 x_parting f_Parting_turns (0 : Int32)) fun I15 =>
    some ((-2 : Int32), I15, J11)
set_option maxRecDepth 100000 in
theorem cm_X4_part (b : Bool)  (I : HI) (J : HJ) : CM mX4_part 23 0 0 [.ref 36] (zs b, I, J) (fI (zs b)) (F_X4_part  I J) := by
  refine S.of okX4_part pn_X4 (Nat.le_of_ble_eq_true rfl) ?_
  refine S.sub (lv' := [(0, .ref 36)]) [0] rfl ?_
  unfold F_X4_part
  refine S.aload_n 0 0 rfl rfl ?_
  refine S.cVV (d := 2) (av := []) (rs := []) (b := 36) 1 rfl co_X4_74 rfl rfl rfl rfl rfl ⟨⟨Nat.le_of_ble_eq_true rfl, Nat.le_of_ble_eq_true rfl⟩, ⟨Nat.le_of_ble_eq_true rfl, Nat.le_of_ble_eq_true rfl⟩, Nat.le_of_ble_eq_true rfl⟩ (cm_X4_findWidest b I J) (fun _ I4 J5 => ?_)
  refine S.iconst (1 : Int32) 2 rfl (by decide) ?_
  refine S.aload_n 3 0 rfl rfl ?_
  refine S.getI 4 rfl fo_X4_54 rfl rfl ?_
  refine S.ishl 5 rfl ?_
  refine S.iconst (1 : Int32) 6 rfl (by decide) ?_
  refine S.isub 7 rfl ?_
  refine S.nmi (fun x6 => ?_)
  refine S.istore_n [(1, .int x6), (0, .ref 36)] 8 rfl (by decide) rfl ?_
  refine S.aload_n 9 1 rfl rfl ?_
  refine S.getR 10 rfl fo_X4_21 rfl rfl rfl ?_
  refine S.iconst (0 : Int32) 11 rfl (by decide) ?_
  refine S.iload_n 12 0 rfl rfl ?_
  refine S.iconst (1 : Int32) 13 rfl (by decide) ?_
  refine S.iadd 14 rfl ?_
  refine S.iconst (-1 : Int32) 15 rfl (by decide) ?_
  refine S.cSV (d := 2) (av := [.ref 40, .int (0 : Int32), .int (x6 + (1 : Int32)), .int (-1 : Int32)]) (rs := [.int (-1 : Int32), .int (x6 + (1 : Int32)), .int (0 : Int32), .ref 40]) 16 rfl co_X4_77 rfl rfl ⟨⟨Nat.le_of_ble_eq_true rfl, Nat.le_of_ble_eq_true rfl⟩, ⟨Nat.le_of_ble_eq_true rfl, Nat.le_of_ble_eq_true rfl⟩, Nat.le_of_ble_eq_true rfl⟩ (cm_J7_fill_fda19_40 b (0 : Int32) (x6 + (1 : Int32)) (-1 : Int32) I4 J5) (fun _ I7 J8 => ?_)
  refine S.aload_n 17 1 rfl rfl ?_
  refine S.aload_n 18 1 rfl rfl ?_
  refine S.iload_n 19 0 rfl rfl ?_
  refine S.iconst (0 : Int32) 20 rfl (by decide) ?_
  refine S.cVI (d := 21) (av := [.int x6, .int (0 : Int32)]) (rs := [.int (0 : Int32), .int x6]) (b := 36) 21 rfl co_X4_83 rfl rfl rfl rfl rfl ⟨⟨Nat.le_of_ble_eq_true rfl, Nat.le_of_ble_eq_true rfl⟩, ⟨Nat.le_of_ble_eq_true rfl, Nat.le_of_ble_eq_true rfl⟩, Nat.le_of_ble_eq_true rfl⟩ (cm_X4_fewestFor b 20 x6 (0 : Int32) I7 J8) (fun r9 I10 J11 => ?_)
  refine S.putI 22 rfl fo_X4_87 rfl rfl rfl rfl (fun _ hq => by cases hq; exact Or.inl rfl) (fun I12 => ?_)
  refine S.aload_n 23 1 rfl rfl ?_
  refine S.getI 24 rfl fo_X4_87 rfl rfl ?_
  refine S.bipush (99 : Int32) 25 rfl (by decide) ?_
  refine S.icmp_lt 52 26 rfl (by decide) (fun _ => ?_) (fun _ => ?_)
  · refine S.aload_n 32 1 rfl rfl ?_
    refine S.iload_n 33 0 rfl rfl ?_
    refine S.cVV (d := 22) (av := [.int x6]) (rs := [.int x6]) (b := 36) 34 rfl co_X4_90 rfl rfl rfl rfl rfl ⟨⟨Nat.le_of_ble_eq_true rfl, Nat.le_of_ble_eq_true rfl⟩, ⟨Nat.le_of_ble_eq_true rfl, Nat.le_of_ble_eq_true rfl⟩, Nat.le_of_ble_eq_true rfl⟩ (cm_X4_choose b x6 I12 J11) (fun _ I13 J14 => ?_)
    refine S.aload_n 35 1 rfl rfl ?_
    refine S.getI 36 rfl fo_X4_87 rfl rfl ?_
    exact S.iret 37 rfl rfl rfl (Nat.le_refl _) (Nat.le_refl _) rfl
  · refine S.aload_n 27 1 rfl rfl ?_
    refine S.iconst (0 : Int32) 28 rfl (by decide) ?_
    refine S.putI 29 rfl fo_X4_87 rfl rfl rfl rfl (fun _ hq => by cases hq; exact Or.inl rfl) (fun I15 => ?_)
    refine S.bipush (-2 : Int32) 30 rfl (by decide) ?_
    exact S.iret 31 rfl rfl rfl (Nat.le_refl _) (Nat.le_refl _) rfl
def F_X4_findNear_L23 (l1 : Int32) (J : HJ) (kx78 : HI → Option (Unit × HI × HJ)) : Nat → Int32 → HI → Option (Unit × HI × HJ)
  | 0, _, _ => none
  | K+1, l2, I =>
    if (I x_parting f_Parting_lamps) ≤ l2 then
      kx78 I
    else
      bx l1 2187 <|
      if (I x_parting_cover (Int32.toNatClampNeg l1)) = 0 then
        kx78 I
      else
        bx l2 12 <|
        bx l1 2187 <|
        lb (fun (y4 : Int32) (y5 : Int32) (y6 : Int32) =>
        bx y4 12 <|
        lb (ui I x_parting_near (Int32.toNatClampNeg y4) (y5 ||| y6)) fun I8 =>
        F_X4_findNear_L23 l1 J kx78 K (l2 + 1) I8) fun j7 =>
        if ((oushr (I x_parting_cover (Int32.toNatClampNeg l1)) l2) &&& (1 : Int32)) = 0 then
          j7 l2 (I x_parting_near (Int32.toNatClampNeg l2)) (0 : Int32)
        else
          bx l1 2187 <|
          j7 l2 (I x_parting_near (Int32.toNatClampNeg l2)) (I x_parting_cover (Int32.toNatClampNeg l1))
set_option maxRecDepth 100000 in
theorem s_X4_findNear_L23 (b : Bool) (l1 : Int32) (J : HJ) (kx78 : HI → Option (Unit × HI × HJ)) (hkx78 : ∀ (I1 : HI), S (fV (zs b)) mX4_findNear (rmd 2 0 0) 0 0 (0, 0) 78 [(0, .ref 36), (1, .int l1)] [] (zs b, I1, J) (kx78 I1)) : ∀ (K : Nat) (l2 : Int32) (I : HI), S (fV (zs b)) mX4_findNear (rmd 2 0 0) 0 0 (0, 0) 23 [(0, .ref 36), (1, .int l1), (2, .int l2)] [] (zs b, I, J) (F_X4_findNear_L23 l1 J kx78 K l2 I) := by
  intro K
  induction K with
  | zero => intro l2 I; exact S.none
  | succ K ih =>
    intro l2 I
    rw [F_X4_findNear_L23]
    refine S.iload_n 13 2 rfl rfl ?_
    refine S.aload_n 14 0 rfl rfl ?_
    refine S.getI 15 rfl fo_X4_54 rfl rfl ?_
    refine S.icmp_ge 78 16 rfl (by decide) (fun _ => ?_) (fun _ => ?_)
    · refine S.sub (lv' := [(0, .ref 36), (1, .int l1)]) [0, 1] rfl ?_
      exact hkx78 _
    · refine S.aload_n 17 0 rfl rfl ?_
      refine S.getR 18 rfl fo_X4_15 rfl rfl rfl ?_
      refine S.iload_n 19 1 rfl rfl ?_
      refine S.iald 20 rfl rfl ?_
      refine S.if_eq 78 21 rfl (by decide) (fun _ => ?_) (fun _ => ?_)
      · refine S.sub (lv' := [(0, .ref 36), (1, .int l1)]) [0, 1] rfl ?_
        exact hkx78 _
      · refine S.aload_n 22 0 rfl rfl ?_
        refine S.getR 23 rfl fo_X4_24 rfl rfl rfl ?_
        refine S.iload_n 24 2 rfl rfl ?_
        refine S.dup2_11 25 rfl rfl rfl ?_
        refine S.iald 26 rfl rfl ?_
        refine S.aload_n 27 0 rfl rfl ?_
        refine S.getR 28 rfl fo_X4_15 rfl rfl rfl ?_
        refine S.iload_n 29 1 rfl rfl ?_
        refine S.iald 30 rfl rfl ?_
        refine S.iload_n 31 2 rfl rfl ?_
        refine S.iushr 32 rfl ?_
        refine S.iconst (1 : Int32) 33 rfl (by decide) ?_
        refine S.iand 34 rfl ?_
        refine S.jn (fun j => ∀ (y4 : Int32) (y5 : Int32) (y6 : Int32), S (fV (zs b)) mX4_findNear (rmd 2 0 0) 0 0 (0, 0) 70 [(0, .ref 36), (1, .int l1), (2, .int l2)] [.int y6, .int y5, .int y4, .ref 41] (zs b, I, J) (j y4 y5 y6)) (fun y4 y5 y6 => ?_) (fun j7 hj7 => ?_)
        · refine S.ior 42 rfl ?_
          refine S.iast 43 rfl rfl (fun I8 => ?_)
          refine S.iinc (l2 + 1) [(2, .int (l2 + 1)), (0, .ref 36), (1, .int l1)] 44 2 rfl rfl rfl (by decide) rfl ?_
          refine S.goto 23 45 rfl (by decide) ?_
          refine S.sub (lv' := [(0, .ref 36), (1, .int l1), (2, .int (l2 + 1))]) [1, 2, 0] rfl ?_
          exact ih _ _
        · refine S.if_eq 69 35 rfl (by decide) (fun _ => ?_) (fun _ => ?_)
          · refine S.iconst (0 : Int32) 41 rfl (by decide) ?_
            exact hj7 _ _ _
          · refine S.aload_n 36 0 rfl rfl ?_
            refine S.getR 37 rfl fo_X4_15 rfl rfl rfl ?_
            refine S.iload_n 38 1 rfl rfl ?_
            refine S.iald 39 rfl rfl ?_
            refine S.goto 70 40 rfl (by decide) ?_
            exact hj7 _ _ _
def F_X4_findNear_L10 (J : HJ) : Nat → Int32 → HI → Option (Unit × HI × HJ)
  | 0, _, _ => none
  | K+1, l1, I =>
    if (I x_table f_Table_size) ≤ l1 then
      some ((), I, J)
    else
      F_X4_findNear_L23 l1 J (fun (I9 : HI) =>
      F_X4_findNear_L10 J K (l1 + 1) I9) bgf (0 : Int32) I
set_option maxRecDepth 100000 in
theorem s_X4_findNear_L10 (b : Bool) (J : HJ) : ∀ (K : Nat) (l1 : Int32) (I : HI), S (fV (zs b)) mX4_findNear (rmd 2 0 0) 0 0 (0, 0) 10 [(0, .ref 36), (1, .int l1)] [] (zs b, I, J) (F_X4_findNear_L10 J K l1 I) := by
  intro K
  induction K with
  | zero => intro l1 I; exact S.none
  | succ K ih =>
    intro l1 I
    rw [F_X4_findNear_L10]
    refine S.iload_n 6 1 rfl rfl ?_
    refine S.aload_n 7 0 rfl rfl ?_
    refine S.getR 8 rfl fo_X4_46 rfl rfl rfl ?_
    refine S.getI 9 rfl fo_X4_58 rfl rfl ?_
    refine S.icmp_ge 84 10 rfl (by decide) (fun _ => ?_) (fun _ => ?_)
    · exact S.vret 48 rfl rfl (Nat.le_refl _) (Nat.le_refl _) rfl
    · refine S.iconst (0 : Int32) 11 rfl (by decide) ?_
      refine S.istore_n [(2, .int (0 : Int32)), (0, .ref 36), (1, .int l1)] 12 rfl (by decide) rfl ?_
      refine S.sub (lv' := [(0, .ref 36), (1, .int l1), (2, .int (0 : Int32))]) [1, 2, 0] rfl ?_
      refine s_X4_findNear_L23 b _ _ _ (fun I9 => ?_) bgf _ _
      refine S.iinc (l1 + 1) [(1, .int (l1 + 1)), (0, .ref 36)] 46 1 rfl rfl rfl (by decide) rfl ?_
      refine S.goto 10 47 rfl (by decide) ?_
      refine S.sub (lv' := [(0, .ref 36), (1, .int (l1 + 1))]) [1, 0] rfl ?_
      exact ih _ _
def F_X4_findNear  (I : HI) (J : HJ) : Option (Unit × HI × HJ) :=
  cl (F_J7_fill_53178_41 (0 : Int32) I J) fun _ I2 J3 =>
  F_X4_findNear_L10 J3 bgf (0 : Int32) I2
set_option maxRecDepth 100000 in
theorem cm_X4_findNear (b : Bool)  (I : HI) (J : HJ) : CM mX4_findNear 2 0 0 [.ref 36] (zs b, I, J) (fV (zs b)) (F_X4_findNear  I J) := by
  refine S.of okX4_findNear pn_X4 (Nat.le_of_ble_eq_true rfl) ?_
  refine S.sub (lv' := [(0, .ref 36)]) [0] rfl ?_
  unfold F_X4_findNear
  refine S.aload_n 0 0 rfl rfl ?_
  refine S.getR 1 rfl fo_X4_24 rfl rfl rfl ?_
  refine S.iconst (0 : Int32) 2 rfl (by decide) ?_
  refine S.cSV (d := 1) (av := [.ref 41, .int (0 : Int32)]) (rs := [.int (0 : Int32), .ref 41]) 3 rfl co_X4_118 rfl rfl ⟨⟨Nat.le_of_ble_eq_true rfl, Nat.le_of_ble_eq_true rfl⟩, ⟨Nat.le_of_ble_eq_true rfl, Nat.le_of_ble_eq_true rfl⟩, Nat.le_of_ble_eq_true rfl⟩ (cm_J7_fill_53178_41 b (0 : Int32) I J) (fun _ I2 J3 => ?_)
  refine S.iconst (0 : Int32) 4 rfl (by decide) ?_
  refine S.istore_n [(1, .int (0 : Int32)), (0, .ref 36)] 5 rfl (by decide) rfl ?_
  refine S.sub (lv' := [(0, .ref 36), (1, .int (0 : Int32))]) [1, 0] rfl ?_
  refine s_X4_findNear_L10 b _ bgf _ _
def F_X4_isApart_L2 (l1 : Int32) (I : HI) (J : HJ) : Nat → Int32 → Option Int32
  | 0, _ => none
  | K+1, l2 =>
    if (I x_parting f_Parting_lamps) ≤ l2 then
      some (1 : Int32)
    else
      lb (
      F_X4_isApart_L2 l1 I J K (l2 + 1)) fun j1 =>
      if ((oushr l1 l2) &&& (1 : Int32)) = 0 then
        j1
      else
        bx l2 12 <|
        if (((I x_parting_near (Int32.toNatClampNeg l2)) &&& l1) &&& ((oshl (1 : Int32) l2) ^^^ (-1 : Int32))) = 0 then
          j1
        else
          some (0 : Int32)
set_option maxRecDepth 100000 in
theorem s_X4_isApart_L2 (b : Bool) (l1 : Int32) (I : HI) (J : HJ) : ∀ (K : Nat) (l2 : Int32), S (pI (zs b, I, J)) mX4_isApart (rmd 1 0 0) 0 0 (0, 0) 2 [(0, .ref 36), (1, .int l1), (2, .int l2)] [] (zs b, I, J) (F_X4_isApart_L2 l1 I J K l2) := by
  intro K
  induction K with
  | zero => intro l2; exact S.none
  | succ K ih =>
    intro l2
    rw [F_X4_isApart_L2]
    refine S.iload_n 2 2 rfl rfl ?_
    refine S.aload_n 3 0 rfl rfl ?_
    refine S.getI 4 rfl fo_X4_54 rfl rfl ?_
    refine S.icmp_ge 43 5 rfl (by decide) (fun _ => ?_) (fun _ => ?_)
    · refine S.iconst (1 : Int32) 29 rfl (by decide) ?_
      exact S.iret 30 rfl rfl rfl (Nat.le_refl _) (Nat.le_refl _) rfl
    · refine S.iload_n 6 1 rfl rfl ?_
      refine S.iload_n 7 2 rfl rfl ?_
      refine S.iushr 8 rfl ?_
      refine S.iconst (1 : Int32) 9 rfl (by decide) ?_
      refine S.iand 10 rfl ?_
      refine S.jn (fun j => S (pI (zs b, I, J)) mX4_isApart (rmd 1 0 0) 0 0 (0, 0) 37 [(0, .ref 36), (1, .int l1), (2, .int l2)] [] (zs b, I, J) (j)) ?_ (fun j1 hj1 => ?_)
      · refine S.iinc (l2 + 1) [(2, .int (l2 + 1)), (0, .ref 36), (1, .int l1)] 27 2 rfl rfl rfl (by decide) rfl ?_
        refine S.goto 2 28 rfl (by decide) ?_
        refine S.sub (lv' := [(0, .ref 36), (1, .int l1), (2, .int (l2 + 1))]) [1, 2, 0] rfl ?_
        exact ih _
      · refine S.if_eq 37 11 rfl (by decide) (fun _ => ?_) (fun _ => ?_)
        · exact hj1
        · refine S.aload_n 12 0 rfl rfl ?_
          refine S.getR 13 rfl fo_X4_24 rfl rfl rfl ?_
          refine S.iload_n 14 2 rfl rfl ?_
          refine S.iald 15 rfl rfl ?_
          refine S.iload_n 16 1 rfl rfl ?_
          refine S.iand 17 rfl ?_
          refine S.iconst (1 : Int32) 18 rfl (by decide) ?_
          refine S.iload_n 19 2 rfl rfl ?_
          refine S.ishl 20 rfl ?_
          refine S.iconst (-1 : Int32) 21 rfl (by decide) ?_
          refine S.ixor 22 rfl ?_
          refine S.iand 23 rfl ?_
          refine S.if_eq 37 24 rfl (by decide) (fun _ => ?_) (fun _ => ?_)
          · exact hj1
          · refine S.iconst (0 : Int32) 25 rfl (by decide) ?_
            exact S.iret 26 rfl rfl rfl (Nat.le_refl _) (Nat.le_refl _) rfl
def F_X4_isApart (l1 : Int32) (I : HI) (J : HJ) : Option Int32 :=
  F_X4_isApart_L2 l1 I J bgf (0 : Int32)
set_option maxRecDepth 100000 in
theorem cm_X4_isApart (b : Bool) (l1 : Int32) (I : HI) (J : HJ) : CM mX4_isApart 1 0 0 [.ref 36, .int l1] (zs b, I, J) (pI (zs b, I, J)) (F_X4_isApart l1 I J) := by
  refine S.of okX4_isApart pn_X4 (Nat.le_of_ble_eq_true rfl) ?_
  refine S.sub (lv' := [(0, .ref 36), (1, .int l1)]) [0, 1] rfl ?_
  unfold F_X4_isApart
  refine S.iconst (0 : Int32) 0 rfl (by decide) ?_
  refine S.istore_n [(2, .int (0 : Int32)), (0, .ref 36), (1, .int l1)] 1 rfl (by decide) rfl ?_
  refine S.sub (lv' := [(0, .ref 36), (1, .int l1), (2, .int (0 : Int32))]) [1, 2, 0] rfl ?_
  refine s_X4_isApart_L2 b _ _ _ bgf _
def F_X4_mostApart_L10 (I : HI) (J : HJ) (kx49 : Int32 → Option (Int64 × HI × HJ)) : Nat → Int32 → Int32 → Int32 → Option (Int64 × HI × HJ)
  | 0, _, _, _ => none
  | K+1, l1, l2, l3 =>
    if (oshl (1 : Int32) (I x_parting f_Parting_lamps)) ≤ l3 then
      kx49 l2
    else
      cp (F_J6_bitCount_0f7a4 l3) fun r4 =>
      lb (fun (y5 : Int32) (y6 : Int32) =>
      F_X4_mostApart_L10 I J kx49 K y5 y6 (l3 + 1)) fun j7 =>
      if r4 ≤ l1 then
        j7 l1 l2
      else
        cp (F_X4_isApart l3 I J) fun r8 =>
        if r8 = 0 then
          j7 l1 l2
        else
          cp (F_J6_bitCount_0f7a4 l3) fun r9 =>
          j7 r9 l3
set_option maxRecDepth 100000 in
theorem s_X4_mostApart_L10 (b : Bool) (I : HI) (J : HJ) (kx49 : Int32 → Option (Int64 × HI × HJ)) (hkx49 : ∀ (y2 : Int32), S (fL (zs b)) mX4_mostApart (rmd 3 0 0) 0 0 (0, 0) 49 [(0, .ref 36), (2, .int y2)] [] (zs b, I, J) (kx49 y2)) : ∀ (K : Nat) (l1 : Int32) (l2 : Int32) (l3 : Int32), S (fL (zs b)) mX4_mostApart (rmd 3 0 0) 0 0 (0, 0) 10 [(0, .ref 36), (1, .int l1), (2, .int l2), (3, .int l3)] [] (zs b, I, J) (F_X4_mostApart_L10 I J kx49 K l1 l2 l3) := by
  intro K
  induction K with
  | zero => intro l1 l2 l3; exact S.none
  | succ K ih =>
    intro l1 l2 l3
    rw [F_X4_mostApart_L10]
    refine S.iload_n 8 3 rfl rfl ?_
    refine S.iconst (1 : Int32) 9 rfl (by decide) ?_
    refine S.aload_n 10 0 rfl rfl ?_
    refine S.getI 11 rfl fo_X4_54 rfl rfl ?_
    refine S.ishl 12 rfl ?_
    refine S.icmp_ge 49 13 rfl (by decide) (fun _ => ?_) (fun _ => ?_)
    · refine S.sub (lv' := [(0, .ref 36), (2, .int l2)]) [0, 2] rfl ?_
      exact hkx49 _
    · refine S.iload_n 14 3 rfl rfl ?_
      refine S.qSI (d := 1) (av := [.int l3]) (rs := [.int l3]) 15 rfl co_X4_108 rfl rfl ⟨⟨Nat.le_of_ble_eq_true rfl, Nat.le_of_ble_eq_true rfl⟩, ⟨Nat.le_of_ble_eq_true rfl, Nat.le_of_ble_eq_true rfl⟩, Nat.le_of_ble_eq_true rfl⟩ (cm_J6_bitCount_0f7a4 (zs b, I, J) l3) (fun r4 => ?_)
      refine S.iload_n 16 1 rfl rfl ?_
      refine S.jn (fun j => ∀ (y5 : Int32) (y6 : Int32), S (fL (zs b)) mX4_mostApart (rmd 3 0 0) 0 0 (0, 0) 43 [(0, .ref 36), (1, .int y5), (2, .int y6), (3, .int l3)] [] (zs b, I, J) (j y5 y6)) (fun y5 y6 => ?_) (fun j7 hj7 => ?_)
      · refine S.iinc (l3 + 1) [(3, .int (l3 + 1)), (0, .ref 36), (1, .int y5), (2, .int y6)] 27 3 rfl rfl rfl (by decide) rfl ?_
        refine S.goto 10 28 rfl (by decide) ?_
        refine S.sub (lv' := [(0, .ref 36), (1, .int y5), (2, .int y6), (3, .int (l3 + 1))]) [1, 2, 3, 0] rfl ?_
        exact ih _ _ _
      · refine S.icmp_le 43 17 rfl (by decide) (fun _ => ?_) (fun _ => ?_)
        · exact hj7 _ _
        · refine S.aload_n 18 0 rfl rfl ?_
          refine S.iload_n 19 3 rfl rfl ?_
          refine S.qVI (d := 1) (av := [.int l3]) (rs := [.int l3]) (b := 36) 20 rfl co_X4_114 rfl rfl rfl rfl rfl ⟨⟨Nat.le_of_ble_eq_true rfl, Nat.le_of_ble_eq_true rfl⟩, ⟨Nat.le_of_ble_eq_true rfl, Nat.le_of_ble_eq_true rfl⟩, Nat.le_of_ble_eq_true rfl⟩ (cm_X4_isApart b l3 I J) (fun r8 => ?_)
          refine S.if_eq 43 21 rfl (by decide) (fun _ => ?_) (fun _ => ?_)
          · exact hj7 _ _
          · refine S.iload_n 22 3 rfl rfl ?_
            refine S.qSI (d := 1) (av := [.int l3]) (rs := [.int l3]) 23 rfl co_X4_108 rfl rfl ⟨⟨Nat.le_of_ble_eq_true rfl, Nat.le_of_ble_eq_true rfl⟩, ⟨Nat.le_of_ble_eq_true rfl, Nat.le_of_ble_eq_true rfl⟩, Nat.le_of_ble_eq_true rfl⟩ (cm_J6_bitCount_0f7a4 (zs b, I, J) l3) (fun r9 => ?_)
            refine S.istore_n [(1, .int r9), (0, .ref 36), (2, .int l2), (3, .int l3)] 24 rfl (by decide) rfl ?_
            refine S.iload_n 25 3 rfl rfl ?_
            refine S.istore_n [(2, .int l3), (1, .int r9), (0, .ref 36), (3, .int l3)] 26 rfl (by decide) rfl ?_
            refine S.sub (lv' := [(0, .ref 36), (1, .int r9), (2, .int l3), (3, .int l3)]) [2, 1, 0, 3] rfl ?_
            exact hj7 _ _
def F_X4_mostApart_L54 (l2 : Int32) (I : HI) (J : HJ) : Nat → Int64 → Int32 → Option (Int64 × HI × HJ)
  | 0, _, _ => none
  | K+1, l3, l5 =>
    if (I x_parting f_Parting_lamps) ≤ l5 then
      some (l3, I, J)
    else
      bx l5 12 <|
      lb ((l3 ||| (olshl (Int32.toInt64 ((oushr l2 l5) &&& (1 : Int32))) (I x_parting_lampAt (Int32.toNatClampNeg l5))))) fun x11 =>
      F_X4_mostApart_L54 l2 I J K x11 (l5 + 1)
set_option maxRecDepth 100000 in
theorem s_X4_mostApart_L54 (b : Bool) (l2 : Int32) (I : HI) (J : HJ) : ∀ (K : Nat) (l3 : Int64) (l5 : Int32), S (fL (zs b)) mX4_mostApart (rmd 3 0 0) 0 0 (0, 0) 54 [(0, .ref 36), (2, .int l2), (3, .long l3), (5, .int l5)] [] (zs b, I, J) (F_X4_mostApart_L54 l2 I J K l3 l5) := by
  intro K
  induction K with
  | zero => intro l3 l5; exact S.none
  | succ K ih =>
    intro l3 l5
    rw [F_X4_mostApart_L54]
    refine S.iload 33 3 rfl rfl ?_
    refine S.aload_n 34 0 rfl rfl ?_
    refine S.getI 35 rfl fo_X4_54 rfl rfl ?_
    refine S.icmp_ge 87 36 rfl (by decide) (fun _ => ?_) (fun _ => ?_)
    · refine S.lload_n 53 2 rfl rfl ?_
      exact S.lret 54 rfl rfl (Nat.le_refl _) (Nat.le_refl _) rfl
    · refine S.lload_n 37 2 rfl rfl ?_
      refine S.iload_n 38 1 rfl rfl ?_
      refine S.iload 39 3 rfl rfl ?_
      refine S.iushr 40 rfl ?_
      refine S.iconst (1 : Int32) 41 rfl (by decide) ?_
      refine S.iand 42 rfl ?_
      refine S.i2l 43 rfl ?_
      refine S.aload_n 44 0 rfl rfl ?_
      refine S.getR 45 rfl fo_X4_9 rfl rfl rfl ?_
      refine S.iload 46 3 rfl rfl ?_
      refine S.iald 47 rfl rfl ?_
      refine S.lshl 48 rfl ?_
      refine S.lor 49 rfl ?_
      refine S.nml (fun x11 => ?_)
      refine S.lstore_n [(3, .long x11), (0, .ref 36), (2, .int l2), (5, .int l5)] 50 rfl (by decide) rfl ?_
      refine S.iinc (l5 + 1) [(5, .int (l5 + 1)), (3, .long x11), (0, .ref 36), (2, .int l2)] 51 3 rfl rfl rfl (by decide) rfl ?_
      refine S.goto 54 52 rfl (by decide) ?_
      refine S.sub (lv' := [(0, .ref 36), (2, .int l2), (3, .long x11), (5, .int (l5 + 1))]) [2, 3, 1, 0] rfl ?_
      exact ih _ _
def F_X4_mostApart  (I : HI) (J : HJ) : Option (Int64 × HI × HJ) :=
  cl (F_X4_findNear I J) fun _ I2 J3 =>
  F_X4_mostApart_L10 I2 J3 (fun (y10 : Int32) =>
  F_X4_mostApart_L54 y10 I2 J3 bgf (0 : Int64) (0 : Int32)) bgf (0 : Int32) (0 : Int32) (0 : Int32)
set_option maxRecDepth 100000 in
theorem cm_X4_mostApart (b : Bool)  (I : HI) (J : HJ) : CM mX4_mostApart 3 0 0 [.ref 36] (zs b, I, J) (fL (zs b)) (F_X4_mostApart  I J) := by
  refine S.of okX4_mostApart pn_X4 (Nat.le_of_ble_eq_true rfl) ?_
  refine S.sub (lv' := [(0, .ref 36)]) [0] rfl ?_
  unfold F_X4_mostApart
  refine S.iconst (0 : Int32) 0 rfl (by decide) ?_
  refine S.istore_n [(1, .int (0 : Int32)), (0, .ref 36)] 1 rfl (by decide) rfl ?_
  refine S.iconst (0 : Int32) 2 rfl (by decide) ?_
  refine S.istore_n [(2, .int (0 : Int32)), (1, .int (0 : Int32)), (0, .ref 36)] 3 rfl (by decide) rfl ?_
  refine S.aload_n 4 2 rfl rfl ?_
  refine S.cVV (d := 2) (av := []) (rs := []) (b := 36) 5 rfl co_X4_105 rfl rfl rfl rfl rfl ⟨⟨Nat.le_of_ble_eq_true rfl, Nat.le_of_ble_eq_true rfl⟩, ⟨Nat.le_of_ble_eq_true rfl, Nat.le_of_ble_eq_true rfl⟩, Nat.le_of_ble_eq_true rfl⟩ (cm_X4_findNear b I J) (fun _ I2 J3 => ?_)
  refine S.iconst (0 : Int32) 6 rfl (by decide) ?_
  refine S.istore_n [(3, .int (0 : Int32)), (2, .int (0 : Int32)), (1, .int (0 : Int32)), (0, .ref 36)] 7 rfl (by decide) rfl ?_
  refine S.sub (lv' := [(0, .ref 36), (1, .int (0 : Int32)), (2, .int (0 : Int32)), (3, .int (0 : Int32))]) [3, 2, 1, 0] rfl ?_
  refine s_X4_mostApart_L10 b _ _ _ (fun y10 => ?_) bgf _ _ _
  refine S.lconst (0 : Int64) 29 rfl (by decide) ?_
  refine S.lstore_n [(3, .long (0 : Int64)), (0, .ref 36), (2, .int y10)] 30 rfl (by decide) rfl ?_
  refine S.iconst (0 : Int32) 31 rfl (by decide) ?_
  refine S.istore [(5, .int (0 : Int32)), (3, .long (0 : Int64)), (0, .ref 36), (2, .int y10)] 32 rfl (by decide) rfl ?_
  refine S.sub (lv' := [(0, .ref 36), (2, .int y10), (3, .long (0 : Int64)), (5, .int (0 : Int32))]) [2, 3, 1, 0] rfl ?_
  refine s_X4_mostApart_L54 b _ _ _ bgf _ _
def F_X4_differing (l1 : Int32) (l2 : Int32) (I : HI) (J : HJ) : Option Int32 :=
  bx l1 2187 <|
  bx l2 2187 <|
  bx l1 2187 <|
  bx l2 2187 <|
  cp (F_J6_bitCount_0f7a4 (((I x_table_high (Int32.toNatClampNeg l1)) ^^^ (I x_table_high (Int32.toNatClampNeg l2))) ||| ((I x_table_low (Int32.toNatClampNeg l1)) ^^^ (I x_table_low (Int32.toNatClampNeg l2))))) fun r1 =>
  some r1
set_option maxRecDepth 100000 in
theorem cm_X4_differing (b : Bool) (l1 : Int32) (l2 : Int32) (I : HI) (J : HJ) : CM mX4_differing 2 0 0 [.ref 36, .int l1, .int l2] (zs b, I, J) (pI (zs b, I, J)) (F_X4_differing l1 l2 I J) := by
  refine S.of okX4_differing pn_X4 (Nat.le_of_ble_eq_true rfl) ?_
  refine S.sub (lv' := [(0, .ref 36), (1, .int l1), (2, .int l2)]) [0, 1, 2] rfl ?_
  unfold F_X4_differing
  refine S.aload_n 0 0 rfl rfl ?_
  refine S.getR 1 rfl fo_X4_46 rfl rfl rfl ?_
  refine S.getR 2 rfl fo_X4_137 rfl rfl rfl ?_
  refine S.iload_n 3 1 rfl rfl ?_
  refine S.iald 4 rfl rfl ?_
  refine S.aload_n 5 0 rfl rfl ?_
  refine S.getR 6 rfl fo_X4_46 rfl rfl rfl ?_
  refine S.getR 7 rfl fo_X4_137 rfl rfl rfl ?_
  refine S.iload_n 8 2 rfl rfl ?_
  refine S.iald 9 rfl rfl ?_
  refine S.ixor 10 rfl ?_
  refine S.aload_n 11 0 rfl rfl ?_
  refine S.getR 12 rfl fo_X4_46 rfl rfl rfl ?_
  refine S.getR 13 rfl fo_X4_140 rfl rfl rfl ?_
  refine S.iload_n 14 1 rfl rfl ?_
  refine S.iald 15 rfl rfl ?_
  refine S.aload_n 16 0 rfl rfl ?_
  refine S.getR 17 rfl fo_X4_46 rfl rfl rfl ?_
  refine S.getR 18 rfl fo_X4_140 rfl rfl rfl ?_
  refine S.iload_n 19 2 rfl rfl ?_
  refine S.iald 20 rfl rfl ?_
  refine S.ixor 21 rfl ?_
  refine S.ior 22 rfl ?_
  refine S.qSI (d := 1) (av := [.int (((I x_table_high (Int32.toNatClampNeg l1)) ^^^ (I x_table_high (Int32.toNatClampNeg l2))) ||| ((I x_table_low (Int32.toNatClampNeg l1)) ^^^ (I x_table_low (Int32.toNatClampNeg l2))))]) (rs := [.int (((I x_table_high (Int32.toNatClampNeg l1)) ^^^ (I x_table_high (Int32.toNatClampNeg l2))) ||| ((I x_table_low (Int32.toNatClampNeg l1)) ^^^ (I x_table_low (Int32.toNatClampNeg l2))))]) 23 rfl co_X4_108 rfl rfl ⟨⟨Nat.le_of_ble_eq_true rfl, Nat.le_of_ble_eq_true rfl⟩, ⟨Nat.le_of_ble_eq_true rfl, Nat.le_of_ble_eq_true rfl⟩, Nat.le_of_ble_eq_true rfl⟩ (cm_J6_bitCount_0f7a4 (zs b, I, J) (((I x_table_high (Int32.toNatClampNeg l1)) ^^^ (I x_table_high (Int32.toNatClampNeg l2))) ||| ((I x_table_low (Int32.toNatClampNeg l1)) ^^^ (I x_table_low (Int32.toNatClampNeg l2))))) (fun r1 => ?_)
  exact S.iret 24 rfl rfl rfl (Nat.le_refl _) (Nat.le_refl _) rfl
def F_X4_tryOrder_L51 (rc : Int32 → Int32 → Int32 → Int32 → HI → HJ → Option (Unit × HI × HJ)) (l1 : Int32) (l2 : Int32) (l3 : Int32) (l4 : Int32) : Nat → Int32 → HI → HJ → Option (Unit × HI × HJ)
  | 0, _, _, _ => none
  | K+1, l5, I, J =>
    if (I x_parting f_Parting_turns) ≤ l5 then
      some ((), I, J)
    else
      lb (fun (I4 : HI) (J5 : HJ) =>
      F_X4_tryOrder_L51 rc l1 l2 l3 l4 K (l5 + 1) I4 J5) fun j6 =>
      if ((oushr l2 l5) &&& (1 : Int32)) = 0 then
        bx l5 12 <|
        bx l1 12 <|
        lb (ui I x_parting_tried (Int32.toNatClampNeg l1) (I x_parting_chosen (Int32.toNatClampNeg l5))) fun I7 =>
        bx l5 12 <|
        cp (F_X4_differing l3 (I7 x_parting_chosen (Int32.toNatClampNeg l5)) I7 J) fun r8 =>
        bx l5 12 <|
        cl (rc (l1 + (1 : Int32)) (l2 ||| (oshl (1 : Int32) l5)) (I7 x_parting_chosen (Int32.toNatClampNeg l5)) (l4 + r8) I7 J) fun _ I9 J10 =>
        j6 I9 J10
      else
        j6 I J
set_option maxRecDepth 100000 in
theorem s_X4_tryOrder_L51 (b : Bool) (rc : Int32 → Int32 → Int32 → Int32 → HI → HJ → Option (Unit × HI × HJ)) (dn : Nat) (hdn : 2 ≤ dn) (hrc : ∀ (a0 : Int32) (a1 : Int32) (a2 : Int32) (a3 : Int32) (I : HI) (J : HJ), CM mX4_tryOrder dn 0 0 [.ref 36, .int a0, .int a1, .int a2, .int a3] (zs b, I, J) (fV (zs b)) (rc a0 a1 a2 a3 I J)) (l1 : Int32) (l2 : Int32) (l3 : Int32) (l4 : Int32) : ∀ (K : Nat) (l5 : Int32) (I : HI) (J : HJ), S (fV (zs b)) mX4_tryOrder (rmd (dn + 1) 0 0) 0 0 (0, 0) 51 [(0, .ref 36), (1, .int l1), (2, .int l2), (3, .int l3), (4, .int l4), (5, .int l5)] [] (zs b, I, J) (F_X4_tryOrder_L51 rc l1 l2 l3 l4 K l5 I J) := by
  intro K
  induction K with
  | zero => intro l5 I J; exact S.none
  | succ K ih =>
    intro l5 I J
    rw [F_X4_tryOrder_L51]
    refine S.iload 27 5 rfl rfl ?_
    refine S.aload_n 28 0 rfl rfl ?_
    refine S.getI 29 rfl fo_X4_87 rfl rfl ?_
    refine S.icmp_ge 127 30 rfl (by decide) (fun _ => ?_) (fun _ => ?_)
    · exact S.vret 72 rfl rfl (Nat.le_refl _) (Nat.le_refl _) rfl
    · refine S.iload_n 31 2 rfl rfl ?_
      refine S.iload 32 5 rfl rfl ?_
      refine S.iushr 33 rfl ?_
      refine S.iconst (1 : Int32) 34 rfl (by decide) ?_
      refine S.iand 35 rfl ?_
      refine S.jn (fun j => ∀ (I4 : HI) (J5 : HJ), S (fV (zs b)) mX4_tryOrder (rmd (dn + 1) 0 0) 0 0 (0, 0) 121 [(0, .ref 36), (1, .int l1), (2, .int l2), (3, .int l3), (4, .int l4), (5, .int l5)] [] (zs b, I4, J5) (j I4 J5)) (fun I4 J5 => ?_) (fun j6 hj6 => ?_)
      · refine S.iinc (l5 + 1) [(5, .int (l5 + 1)), (0, .ref 36), (1, .int l1), (2, .int l2), (3, .int l3), (4, .int l4)] 70 5 rfl rfl rfl (by decide) rfl ?_
        refine S.goto 51 71 rfl (by decide) ?_
        refine S.sub (lv' := [(0, .ref 36), (1, .int l1), (2, .int l2), (3, .int l3), (4, .int l4), (5, .int (l5 + 1))]) [1, 2, 3, 4, 5, 0] rfl ?_
        exact ih _ _ _
      · refine S.if_ne 121 36 rfl (by decide) (fun _ => ?_) (fun _ => ?_)
        · exact hj6 _ _
        · refine S.aload_n 37 0 rfl rfl ?_
          refine S.getR 38 rfl fo_X4_33 rfl rfl rfl ?_
          refine S.iload_n 39 1 rfl rfl ?_
          refine S.aload_n 40 0 rfl rfl ?_
          refine S.getR 41 rfl fo_X4_27 rfl rfl rfl ?_
          refine S.iload 42 5 rfl rfl ?_
          refine S.iald 43 rfl rfl ?_
          refine S.iast 44 rfl rfl (fun I7 => ?_)
          refine S.aload_n 45 0 rfl rfl ?_
          refine S.iload_n 46 3 rfl rfl ?_
          refine S.aload_n 47 0 rfl rfl ?_
          refine S.getR 48 rfl fo_X4_27 rfl rfl rfl ?_
          refine S.iload 49 5 rfl rfl ?_
          refine S.iald 50 rfl rfl ?_
          refine S.qVI (d := 2) (av := [.int l3, .int (I7 x_parting_chosen (Int32.toNatClampNeg l5))]) (rs := [.int (I7 x_parting_chosen (Int32.toNatClampNeg l5)), .int l3]) (b := 36) 51 rfl co_X4_134 rfl rfl rfl rfl rfl ⟨⟨by show 2 + 1 ≤ dn + 1; omega, by show 8 + (3 + 11) + 64 * (2) ≤ 64 * (dn + 1); omega⟩, ⟨Nat.le_refl _, Nat.le_refl _⟩, Nat.le_of_ble_eq_true rfl⟩ (cm_X4_differing b l3 (I7 x_parting_chosen (Int32.toNatClampNeg l5)) I7 J) (fun r8 => ?_)
          refine S.istore [(6, .int r8), (0, .ref 36), (1, .int l1), (2, .int l2), (3, .int l3), (4, .int l4), (5, .int l5)] 52 rfl (by decide) rfl ?_
          refine S.aload_n 53 1 rfl rfl ?_
          refine S.iload_n 54 2 rfl rfl ?_
          refine S.iconst (1 : Int32) 55 rfl (by decide) ?_
          refine S.iadd 56 rfl ?_
          refine S.iload_n 57 3 rfl rfl ?_
          refine S.iconst (1 : Int32) 58 rfl (by decide) ?_
          refine S.iload 59 6 rfl rfl ?_
          refine S.ishl 60 rfl ?_
          refine S.ior 61 rfl ?_
          refine S.aload_n 62 1 rfl rfl ?_
          refine S.getR 63 rfl fo_X4_27 rfl rfl rfl ?_
          refine S.iload 64 6 rfl rfl ?_
          refine S.iald 65 rfl rfl ?_
          refine S.iload 66 5 rfl rfl ?_
          refine S.iload 67 0 rfl rfl ?_
          refine S.iadd 68 rfl ?_
          refine S.cVV (d := dn) (av := [.int (l1 + (1 : Int32)), .int (l2 ||| (oshl (1 : Int32) l5)), .int (I7 x_parting_chosen (Int32.toNatClampNeg l5)), .int (l4 + r8)]) (rs := [.int (l4 + r8), .int (I7 x_parting_chosen (Int32.toNatClampNeg l5)), .int (l2 ||| (oshl (1 : Int32) l5)), .int (l1 + (1 : Int32))]) (b := 36) 69 rfl co_X4_124 rfl rfl rfl rfl rfl ⟨⟨by show dn + 1 ≤ dn + 1; omega, by show 8 + (7 + 11) + 64 * (dn) ≤ 64 * (dn + 1); omega⟩, ⟨Nat.le_refl _, Nat.le_refl _⟩, Nat.le_of_ble_eq_true rfl⟩ (hrc (l1 + (1 : Int32)) (l2 ||| (oshl (1 : Int32) l5)) (I7 x_parting_chosen (Int32.toNatClampNeg l5)) (l4 + r8) I7 J) (fun _ I9 J10 => ?_)
          refine S.sub (lv' := [(0, .ref 36), (1, .int l1), (2, .int l2), (3, .int l3), (4, .int l4), (5, .int l5)]) [1, 2, 3, 4, 5, 6] rfl ?_
          exact hj6 _ _
def F_X4_tryOrder_B (rc : Int32 → Int32 → Int32 → Int32 → HI → HJ → Option (Unit × HI × HJ)) (l1 : Int32) (l2 : Int32) (l3 : Int32) (l4 : Int32) (I : HI) (J : HJ) : Option (Unit × HI × HJ) :=
  if (I x_parting f_Parting_fewestChanges) ≤ l4 then
    some ((), I, J)
  else
    if l1 ≤ (6 : Int32) then
      if l1 = (I x_parting f_Parting_turns) then
        lb (ui I x_parting f_Parting_fewestChanges l4) fun I11 =>
        if (0 : Int32) < 0 ∨ (0 : Int32) < 0 ∨ (I11 x_parting f_Parting_turns) < 0 ∨ 12 < Int32.toNatClampNeg (0 : Int32) + Int32.toNatClampNeg (I11 x_parting f_Parting_turns) ∨ 12 < Int32.toNatClampNeg (0 : Int32) + Int32.toNatClampNeg (I11 x_parting f_Parting_turns) then none else
        lb (uf I11 x_parting_order (va_cpy (I11 x_parting_tried) (I11 x_parting_order) (Int32.toNatClampNeg (0 : Int32)) (Int32.toNatClampNeg (0 : Int32)) (Int32.toNatClampNeg (I11 x_parting f_Parting_turns)))) fun I12 =>
        some ((), I12, J)
      else
        F_X4_tryOrder_L51 rc l1 l2 l3 l4 bgf (0 : Int32) I J
    else
      some ((), I, J)
set_option maxRecDepth 100000 in
theorem cm_X4_tryOrder_B (b : Bool) (rc : Int32 → Int32 → Int32 → Int32 → HI → HJ → Option (Unit × HI × HJ)) (dn : Nat) (hdn : 2 ≤ dn) (hrc : ∀ (a0 : Int32) (a1 : Int32) (a2 : Int32) (a3 : Int32) (I : HI) (J : HJ), CM mX4_tryOrder dn 0 0 [.ref 36, .int a0, .int a1, .int a2, .int a3] (zs b, I, J) (fV (zs b)) (rc a0 a1 a2 a3 I J)) (l1 : Int32) (l2 : Int32) (l3 : Int32) (l4 : Int32) (I : HI) (J : HJ) : CM mX4_tryOrder (dn + 1) 0 0 [.ref 36, .int l1, .int l2, .int l3, .int l4] (zs b, I, J) (fV (zs b)) (F_X4_tryOrder_B rc l1 l2 l3 l4 I J) := by
  refine S.of okX4_tryOrder pn_X4 (Nat.le_of_ble_eq_true rfl) ?_
  refine S.sub (lv' := [(0, .ref 36), (1, .int l1), (2, .int l2), (3, .int l3), (4, .int l4)]) [0, 1, 2, 3, 4] rfl ?_
  unfold F_X4_tryOrder_B
  refine S.iload 0 4 rfl rfl ?_
  refine S.aload_n 1 0 rfl rfl ?_
  refine S.getI 2 rfl fo_X4_121 rfl rfl ?_
  refine S.icmp_ge 15 3 rfl (by decide) (fun _ => ?_) (fun _ => ?_)
  · exact S.vret 7 rfl rfl (Nat.le_refl _) (Nat.le_refl _) rfl
  · refine S.iload_n 4 1 rfl rfl ?_
    refine S.bipush (6 : Int32) 5 rfl (by decide) ?_
    refine S.icmp_le 16 6 rfl (by decide) (fun _ => ?_) (fun _ => ?_)
    · refine S.iload_n 8 1 rfl rfl ?_
      refine S.aload_n 9 0 rfl rfl ?_
      refine S.getI 10 rfl fo_X4_87 rfl rfl ?_
      refine S.icmp_ne 48 11 rfl (by decide) (fun _ => ?_) (fun _ => ?_)
      · refine S.iconst (0 : Int32) 25 rfl (by decide) ?_
        refine S.istore [(5, .int (0 : Int32)), (0, .ref 36), (1, .int l1), (2, .int l2), (3, .int l3), (4, .int l4)] 26 rfl (by decide) rfl ?_
        refine S.sub (lv' := [(0, .ref 36), (1, .int l1), (2, .int l2), (3, .int l3), (4, .int l4), (5, .int (0 : Int32))]) [1, 2, 3, 4, 5, 0] rfl ?_
        refine s_X4_tryOrder_L51 b rc dn hdn hrc _ _ _ _ bgf _ _ _
      · refine S.aload_n 12 0 rfl rfl ?_
        refine S.iload 13 4 rfl rfl ?_
        refine S.putI 14 rfl fo_X4_121 rfl rfl rfl rfl (fun _ hq => by cases hq; exact Or.inl rfl) (fun I11 => ?_)
        refine S.aload_n 15 0 rfl rfl ?_
        refine S.getR 16 rfl fo_X4_33 rfl rfl rfl ?_
        refine S.iconst (0 : Int32) 17 rfl (by decide) ?_
        refine S.aload_n 18 0 rfl rfl ?_
        refine S.getR 19 rfl fo_X4_30 rfl rfl rfl ?_
        refine S.iconst (0 : Int32) 20 rfl (by decide) ?_
        refine S.aload_n 21 0 rfl rfl ?_
        refine S.getI 22 rfl fo_X4_87 rfl rfl ?_
        refine S.copyi 23 rfl co_X4_128 w_ac1 w_ac2 w_ac3 rfl rfl (Nat.le_of_ble_eq_true rfl) (Nat.le_of_ble_eq_true rfl) (Nat.le_of_ble_eq_true rfl) (fun I12 => ?_)
        exact S.vret 24 rfl rfl (Nat.le_refl _) (Nat.le_refl _) rfl
    · exact S.vret 7 rfl rfl (Nat.le_refl _) (Nat.le_refl _) rfl
def F_X4_tryOrder : Nat → Int32 → Int32 → Int32 → Int32 → HI → HJ → Option (Unit × HI × HJ)
  | 0, _, _, _, _, _, _ => none
  | n+1, l1, l2, l3, l4, I, J => F_X4_tryOrder_B (F_X4_tryOrder n) l1 l2 l3 l4 I J
theorem cm_X4_tryOrder (b : Bool) : ∀ (n : Nat) (l1 : Int32) (l2 : Int32) (l3 : Int32) (l4 : Int32) (I : HI) (J : HJ), CM mX4_tryOrder (2 + 1 * n) 0 0 [.ref 36, .int l1, .int l2, .int l3, .int l4] (zs b, I, J) (fV (zs b)) (F_X4_tryOrder n l1 l2 l3 l4 I J) := by
  intro n
  induction n with
  | zero => intro l1 l2 l3 l4 I J r hf; cases hf
  | succ n ih =>
    intro l1 l2 l3 l4 I J
    have e : 2 + 1 * (n + 1) = 2 + 1 * n + 1 := by omega
    rw [e]
    exact cm_X4_tryOrder_B b (F_X4_tryOrder n) (2 + 1 * n) (by omega) (ih) l1 l2 l3 l4 I J
def F_X4_putInOrder  (I : HI) (J : HJ) : Option (Int32 × HI × HJ) :=
  lb (ui I x_parting f_Parting_fewestChanges (43 : Int32)) fun I2 =>
  cl (F_X4_tryOrder 20 (0 : Int32) (0 : Int32) (0 : Int32) (0 : Int32) I2 J) fun _ I3 J4 =>
  some ((I3 x_parting f_Parting_fewestChanges), I3, J4)
set_option maxRecDepth 100000 in
theorem cm_X4_putInOrder (b : Bool)  (I : HI) (J : HJ) : CM mX4_putInOrder 23 0 0 [.ref 36] (zs b, I, J) (fI (zs b)) (F_X4_putInOrder  I J) := by
  refine S.of okX4_putInOrder pn_X4 (Nat.le_of_ble_eq_true rfl) ?_
  refine S.sub (lv' := [(0, .ref 36)]) [0] rfl ?_
  unfold F_X4_putInOrder
  refine S.aload_n 0 0 rfl rfl ?_
  refine S.bipush (43 : Int32) 1 rfl (by decide) ?_
  refine S.putI 2 rfl fo_X4_121 rfl rfl rfl rfl (fun _ hq => by cases hq; exact Or.inl rfl) (fun I2 => ?_)
  refine S.aload_n 3 0 rfl rfl ?_
  refine S.iconst (0 : Int32) 4 rfl (by decide) ?_
  refine S.iconst (0 : Int32) 5 rfl (by decide) ?_
  refine S.iconst (0 : Int32) 6 rfl (by decide) ?_
  refine S.iconst (0 : Int32) 7 rfl (by decide) ?_
  refine S.cVV (d := 22) (av := [.int (0 : Int32), .int (0 : Int32), .int (0 : Int32), .int (0 : Int32)]) (rs := [.int (0 : Int32), .int (0 : Int32), .int (0 : Int32), .int (0 : Int32)]) (b := 36) 8 rfl co_X4_124 rfl rfl rfl rfl rfl ⟨⟨Nat.le_of_ble_eq_true rfl, Nat.le_of_ble_eq_true rfl⟩, ⟨Nat.le_of_ble_eq_true rfl, Nat.le_of_ble_eq_true rfl⟩, Nat.le_of_ble_eq_true rfl⟩ (cm_X4_tryOrder b 20 (0 : Int32) (0 : Int32) (0 : Int32) (0 : Int32) I2 J) (fun _ I3 J4 => ?_)
  refine S.aload_n 9 0 rfl rfl ?_
  refine S.getI 10 rfl fo_X4_121 rfl rfl ?_
  exact S.iret 11 rfl rfl rfl (Nat.le_refl _) (Nat.le_refl _) rfl
def F_X4_takeLights_L48 (l1 : Int32) (I : HI) (kx110 : HJ → Option (Unit × HI × HJ)) : Nat → Int32 → HJ → Option (Unit × HI × HJ)
  | 0, _, _ => none
  | K+1, l2, J =>
    if (I x_parting f_Parting_lamps) ≤ l2 then
      kx110 J
    else
      bx l2 12 <|
      bx (I x_parting_lampAt (Int32.toNatClampNeg l2)) 64 <|
      bx ((l1 * (12 : Int32)) + l2) 144 <|
      lb (uj J x_parting_lights (Int32.toNatClampNeg ((l1 * (12 : Int32)) + l2)) (J x_flow_light (Int32.toNatClampNeg (I x_parting_lampAt (Int32.toNatClampNeg l2))))) fun J6 =>
      bx l2 12 <|
      bx l2 12 <|
      bx (I x_parting_lampAt (Int32.toNatClampNeg l2)) 64 <|
      bx l2 12 <|
      lb (uj J6 x_parting_sums (Int32.toNatClampNeg l2) ((J6 x_parting_sums (Int32.toNatClampNeg l2)) + (J6 x_flow_light (Int32.toNatClampNeg (I x_parting_lampAt (Int32.toNatClampNeg l2)))))) fun J7 =>
      F_X4_takeLights_L48 l1 I kx110 K (l2 + 1) J7
set_option maxRecDepth 100000 in
theorem s_X4_takeLights_L48 (b : Bool) (l1 : Int32) (I : HI) (kx110 : HJ → Option (Unit × HI × HJ)) (hkx110 : ∀ (J1 : HJ), S (fV (zs b)) mX4_takeLights (rmd 25 0 0) 0 0 (0, 0) 110 [(0, .ref 36), (1, .int l1)] [] (zs b, I, J1) (kx110 J1)) : ∀ (K : Nat) (l2 : Int32) (J : HJ), S (fV (zs b)) mX4_takeLights (rmd 25 0 0) 0 0 (0, 0) 48 [(0, .ref 36), (1, .int l1), (2, .int l2)] [] (zs b, I, J) (F_X4_takeLights_L48 l1 I kx110 K l2 J) := by
  intro K
  induction K with
  | zero => intro l2 J; exact S.none
  | succ K ih =>
    intro l2 J
    rw [F_X4_takeLights_L48]
    refine S.iload_n 28 2 rfl rfl ?_
    refine S.aload_n 29 0 rfl rfl ?_
    refine S.getI 30 rfl fo_X4_54 rfl rfl ?_
    refine S.icmp_ge 110 31 rfl (by decide) (fun _ => ?_) (fun _ => ?_)
    · refine S.sub (lv' := [(0, .ref 36), (1, .int l1)]) [0, 1] rfl ?_
      exact hkx110 _
    · refine S.aload_n 32 0 rfl rfl ?_
      refine S.getR 33 rfl fo_X4_39 rfl rfl rfl ?_
      refine S.iload_n 34 1 rfl rfl ?_
      refine S.bipush (12 : Int32) 35 rfl (by decide) ?_
      refine S.imul 36 rfl ?_
      refine S.iload_n 37 2 rfl rfl ?_
      refine S.iadd 38 rfl ?_
      refine S.aload_n 39 0 rfl rfl ?_
      refine S.getR 40 rfl fo_X4_50 rfl rfl rfl ?_
      refine S.getR 41 rfl fo_X4_162 rfl rfl rfl ?_
      refine S.aload_n 42 0 rfl rfl ?_
      refine S.getR 43 rfl fo_X4_9 rfl rfl rfl ?_
      refine S.iload_n 44 2 rfl rfl ?_
      refine S.iald 45 rfl rfl ?_
      refine S.lald 46 rfl rfl ?_
      refine S.last 47 rfl rfl (fun J6 => ?_)
      refine S.aload_n 48 0 rfl rfl ?_
      refine S.getR 49 rfl fo_X4_43 rfl rfl rfl ?_
      refine S.iload_n 50 2 rfl rfl ?_
      refine S.dup2_11 51 rfl rfl rfl ?_
      refine S.lald 52 rfl rfl ?_
      refine S.aload_n 53 0 rfl rfl ?_
      refine S.getR 54 rfl fo_X4_50 rfl rfl rfl ?_
      refine S.getR 55 rfl fo_X4_162 rfl rfl rfl ?_
      refine S.aload_n 56 0 rfl rfl ?_
      refine S.getR 57 rfl fo_X4_9 rfl rfl rfl ?_
      refine S.iload_n 58 2 rfl rfl ?_
      refine S.iald 59 rfl rfl ?_
      refine S.lald 60 rfl rfl ?_
      refine S.ladd 61 rfl ?_
      refine S.last 62 rfl rfl (fun J7 => ?_)
      refine S.iinc (l2 + 1) [(2, .int (l2 + 1)), (0, .ref 36), (1, .int l1)] 63 2 rfl rfl rfl (by decide) rfl ?_
      refine S.goto 48 64 rfl (by decide) ?_
      refine S.sub (lv' := [(0, .ref 36), (1, .int l1), (2, .int (l2 + 1))]) [1, 2, 0] rfl ?_
      exact ih _ _
def F_X4_takeLights_L2  : Nat → Int32 → HI → HJ → Option (Unit × HI × HJ)
  | 0, _, _, _ => none
  | K+1, l1, I, J =>
    if (I x_parting f_Parting_turns) ≤ l1 then
      some ((), I, J)
    else
      bx l1 12 <|
      bx (I x_parting_chosen (Int32.toNatClampNeg l1)) 2187 <|
      bx l1 12 <|
      bx (I x_parting_chosen (Int32.toNatClampNeg l1)) 2187 <|
      cl (F_X1_glowing (I x_table_high (Int32.toNatClampNeg (I x_parting_chosen (Int32.toNatClampNeg l1)))) (I x_table_low (Int32.toNatClampNeg (I x_parting_chosen (Int32.toNatClampNeg l1)))) I J) fun r3 I4 J5 =>
      F_X4_takeLights_L48 l1 I4 (fun (J8 : HJ) =>
      F_X4_takeLights_L2 K (l1 + 1) I4 J8) bgf (0 : Int32) J5
set_option maxRecDepth 100000 in
theorem s_X4_takeLights_L2 (b : Bool)  : ∀ (K : Nat) (l1 : Int32) (I : HI) (J : HJ), S (fV (zs b)) mX4_takeLights (rmd 25 0 0) 0 0 (0, 0) 2 [(0, .ref 36), (1, .int l1)] [] (zs b, I, J) (F_X4_takeLights_L2 K l1 I J) := by
  intro K
  induction K with
  | zero => intro l1 I J; exact S.none
  | succ K ih =>
    intro l1 I J
    rw [F_X4_takeLights_L2]
    refine S.iload_n 2 1 rfl rfl ?_
    refine S.aload_n 3 0 rfl rfl ?_
    refine S.getI 4 rfl fo_X4_87 rfl rfl ?_
    refine S.icmp_ge 116 5 rfl (by decide) (fun _ => ?_) (fun _ => ?_)
    · exact S.vret 67 rfl rfl (Nat.le_refl _) (Nat.le_refl _) rfl
    · refine S.aload_n 6 0 rfl rfl ?_
      refine S.getR 7 rfl fo_X4_50 rfl rfl rfl ?_
      refine S.aload_n 8 0 rfl rfl ?_
      refine S.getR 9 rfl fo_X4_46 rfl rfl rfl ?_
      refine S.getR 10 rfl fo_X4_137 rfl rfl rfl ?_
      refine S.aload_n 11 0 rfl rfl ?_
      refine S.getR 12 rfl fo_X4_27 rfl rfl rfl ?_
      refine S.iload_n 13 1 rfl rfl ?_
      refine S.iald 14 rfl rfl ?_
      refine S.iald 15 rfl rfl ?_
      refine S.aload_n 16 0 rfl rfl ?_
      refine S.getR 17 rfl fo_X4_46 rfl rfl rfl ?_
      refine S.getR 18 rfl fo_X4_140 rfl rfl rfl ?_
      refine S.aload_n 19 0 rfl rfl ?_
      refine S.getR 20 rfl fo_X4_27 rfl rfl rfl ?_
      refine S.iload_n 21 1 rfl rfl ?_
      refine S.iald 22 rfl rfl ?_
      refine S.iald 23 rfl rfl ?_
      refine S.cVL (d := 24) (av := [.int (I x_table_high (Int32.toNatClampNeg (I x_parting_chosen (Int32.toNatClampNeg l1)))), .int (I x_table_low (Int32.toNatClampNeg (I x_parting_chosen (Int32.toNatClampNeg l1))))]) (rs := [.int (I x_table_low (Int32.toNatClampNeg (I x_parting_chosen (Int32.toNatClampNeg l1)))), .int (I x_table_high (Int32.toNatClampNeg (I x_parting_chosen (Int32.toNatClampNeg l1))))]) (b := 17) 24 rfl co_X4_156 rfl rfl rfl rfl rfl ⟨⟨Nat.le_of_ble_eq_true rfl, Nat.le_of_ble_eq_true rfl⟩, ⟨Nat.le_of_ble_eq_true rfl, Nat.le_of_ble_eq_true rfl⟩, Nat.le_of_ble_eq_true rfl⟩ (cm_X1_glowing b (I x_table_high (Int32.toNatClampNeg (I x_parting_chosen (Int32.toNatClampNeg l1)))) (I x_table_low (Int32.toNatClampNeg (I x_parting_chosen (Int32.toNatClampNeg l1)))) I J) (fun r3 I4 J5 => ?_)
      refine S.pop2_2 25 rfl rfl ?_
      refine S.iconst (0 : Int32) 26 rfl (by decide) ?_
      refine S.istore_n [(2, .int (0 : Int32)), (0, .ref 36), (1, .int l1)] 27 rfl (by decide) rfl ?_
      refine S.sub (lv' := [(0, .ref 36), (1, .int l1), (2, .int (0 : Int32))]) [1, 2, 0] rfl ?_
      refine s_X4_takeLights_L48 b _ _ _ (fun J8 => ?_) bgf _ _
      refine S.iinc (l1 + 1) [(1, .int (l1 + 1)), (0, .ref 36)] 65 1 rfl rfl rfl (by decide) rfl ?_
      refine S.goto 2 66 rfl (by decide) ?_
      refine S.sub (lv' := [(0, .ref 36), (1, .int (l1 + 1))]) [1, 0] rfl ?_
      exact ih _ _ _
def F_X4_takeLights  (I : HI) (J : HJ) : Option (Unit × HI × HJ) :=
  F_X4_takeLights_L2 bgf (0 : Int32) I J
set_option maxRecDepth 100000 in
theorem cm_X4_takeLights (b : Bool)  (I : HI) (J : HJ) : CM mX4_takeLights 25 0 0 [.ref 36] (zs b, I, J) (fV (zs b)) (F_X4_takeLights  I J) := by
  refine S.of okX4_takeLights pn_X4 (Nat.le_of_ble_eq_true rfl) ?_
  refine S.sub (lv' := [(0, .ref 36)]) [0] rfl ?_
  unfold F_X4_takeLights
  refine S.iconst (0 : Int32) 0 rfl (by decide) ?_
  refine S.istore_n [(1, .int (0 : Int32)), (0, .ref 36)] 1 rfl (by decide) rfl ?_
  refine S.sub (lv' := [(0, .ref 36), (1, .int (0 : Int32))]) [1, 0] rfl ?_
  refine s_X4_takeLights_L2 b bgf _ _ _
def F_X4_dimmest_L4 (I : HI) (J : HJ) : Nat → Int32 → Int32 → Option Int32
  | 0, _, _ => none
  | K+1, l1, l2 =>
    if (I x_parting f_Parting_lamps) ≤ l2 then
      some l1
    else
      bx l2 12 <|
      bx l1 12 <|
      lb (fun (y1 : Int32) =>
      F_X4_dimmest_L4 I J K y1 (l2 + 1)) fun j2 =>
      if 0 ≤ (lg_cmp (J x_parting_sums (Int32.toNatClampNeg l2)) (J x_parting_sums (Int32.toNatClampNeg l1))) then
        j2 l1
      else
        j2 l2
set_option maxRecDepth 100000 in
theorem s_X4_dimmest_L4 (b : Bool) (I : HI) (J : HJ) : ∀ (K : Nat) (l1 : Int32) (l2 : Int32), S (pI (zs b, I, J)) mX4_dimmest (rmd 1 0 0) 0 0 (0, 0) 4 [(0, .ref 36), (1, .int l1), (2, .int l2)] [] (zs b, I, J) (F_X4_dimmest_L4 I J K l1 l2) := by
  intro K
  induction K with
  | zero => intro l1 l2; exact S.none
  | succ K ih =>
    intro l1 l2
    rw [F_X4_dimmest_L4]
    refine S.iload_n 4 2 rfl rfl ?_
    refine S.aload_n 5 0 rfl rfl ?_
    refine S.getI 6 rfl fo_X4_54 rfl rfl ?_
    refine S.icmp_ge 40 7 rfl (by decide) (fun _ => ?_) (fun _ => ?_)
    · refine S.iload_n 24 1 rfl rfl ?_
      exact S.iret 25 rfl rfl rfl (Nat.le_refl _) (Nat.le_refl _) rfl
    · refine S.aload_n 8 0 rfl rfl ?_
      refine S.getR 9 rfl fo_X4_43 rfl rfl rfl ?_
      refine S.iload_n 10 2 rfl rfl ?_
      refine S.lald 11 rfl rfl ?_
      refine S.aload_n 12 0 rfl rfl ?_
      refine S.getR 13 rfl fo_X4_43 rfl rfl rfl ?_
      refine S.iload_n 14 1 rfl rfl ?_
      refine S.lald 15 rfl rfl ?_
      refine S.lcmp 16 rfl ?_
      refine S.jn (fun j => ∀ (y1 : Int32), S (pI (zs b, I, J)) mX4_dimmest (rmd 1 0 0) 0 0 (0, 0) 33 [(0, .ref 36), (2, .int l2)] [.int y1] (zs b, I, J) (j y1)) (fun y1 => ?_) (fun j2 hj2 => ?_)
      · refine S.istore_n [(1, .int y1), (0, .ref 36), (2, .int l2)] 21 rfl (by decide) rfl ?_
        refine S.iinc (l2 + 1) [(2, .int (l2 + 1)), (1, .int y1), (0, .ref 36)] 22 2 rfl rfl rfl (by decide) rfl ?_
        refine S.goto 4 23 rfl (by decide) ?_
        refine S.sub (lv' := [(0, .ref 36), (1, .int y1), (2, .int (l2 + 1))]) [2, 1, 0] rfl ?_
        exact ih _ _
      · refine S.if_ge 32 17 rfl (by decide) (fun _ => ?_) (fun _ => ?_)
        · refine S.iload_n 20 1 rfl rfl ?_
          refine S.sub (lv' := [(0, .ref 36), (2, .int l2)]) [0, 2] rfl ?_
          exact hj2 _
        · refine S.iload_n 18 2 rfl rfl ?_
          refine S.goto 33 19 rfl (by decide) ?_
          refine S.sub (lv' := [(0, .ref 36), (2, .int l2)]) [0, 2] rfl ?_
          exact hj2 _
def F_X4_dimmest  (I : HI) (J : HJ) : Option Int32 :=
  F_X4_dimmest_L4 I J bgf (0 : Int32) (1 : Int32)
set_option maxRecDepth 100000 in
theorem cm_X4_dimmest (b : Bool)  (I : HI) (J : HJ) : CM mX4_dimmest 1 0 0 [.ref 36] (zs b, I, J) (pI (zs b, I, J)) (F_X4_dimmest  I J) := by
  refine S.of okX4_dimmest pn_X4 (Nat.le_of_ble_eq_true rfl) ?_
  refine S.sub (lv' := [(0, .ref 36)]) [0] rfl ?_
  unfold F_X4_dimmest
  refine S.iconst (0 : Int32) 0 rfl (by decide) ?_
  refine S.istore_n [(1, .int (0 : Int32)), (0, .ref 36)] 1 rfl (by decide) rfl ?_
  refine S.iconst (1 : Int32) 2 rfl (by decide) ?_
  refine S.istore_n [(2, .int (1 : Int32)), (1, .int (0 : Int32)), (0, .ref 36)] 3 rfl (by decide) rfl ?_
  refine S.sub (lv' := [(0, .ref 36), (1, .int (0 : Int32)), (2, .int (1 : Int32))]) [2, 1, 0] rfl ?_
  refine s_X4_dimmest_L4 b _ _ bgf _ _
def F_X4_brightestTurn_L4 (l1 : Int32) (I : HI) (J : HJ) : Nat → Int32 → Int32 → Option Int32
  | 0, _, _ => none
  | K+1, l2, l3 =>
    if (I x_parting f_Parting_turns) ≤ l3 then
      some l2
    else
      bx ((l3 * (12 : Int32)) + l1) 144 <|
      bx ((l2 * (12 : Int32)) + l1) 144 <|
      lb (fun (y1 : Int32) =>
      F_X4_brightestTurn_L4 l1 I J K y1 (l3 + 1)) fun j2 =>
      if (lg_cmp (J x_parting_lights (Int32.toNatClampNeg ((l3 * (12 : Int32)) + l1))) (J x_parting_lights (Int32.toNatClampNeg ((l2 * (12 : Int32)) + l1)))) ≤ 0 then
        j2 l2
      else
        j2 l3
set_option maxRecDepth 100000 in
theorem s_X4_brightestTurn_L4 (b : Bool) (l1 : Int32) (I : HI) (J : HJ) : ∀ (K : Nat) (l2 : Int32) (l3 : Int32), S (pI (zs b, I, J)) mX4_brightestTurn (rmd 1 0 0) 0 0 (0, 0) 4 [(0, .ref 36), (1, .int l1), (2, .int l2), (3, .int l3)] [] (zs b, I, J) (F_X4_brightestTurn_L4 l1 I J K l2 l3) := by
  intro K
  induction K with
  | zero => intro l2 l3; exact S.none
  | succ K ih =>
    intro l2 l3
    rw [F_X4_brightestTurn_L4]
    refine S.iload_n 4 3 rfl rfl ?_
    refine S.aload_n 5 0 rfl rfl ?_
    refine S.getI 6 rfl fo_X4_87 rfl rfl ?_
    refine S.icmp_ge 46 7 rfl (by decide) (fun _ => ?_) (fun _ => ?_)
    · refine S.iload_n 30 2 rfl rfl ?_
      exact S.iret 31 rfl rfl rfl (Nat.le_refl _) (Nat.le_refl _) rfl
    · refine S.aload_n 8 0 rfl rfl ?_
      refine S.getR 9 rfl fo_X4_39 rfl rfl rfl ?_
      refine S.iload_n 10 3 rfl rfl ?_
      refine S.bipush (12 : Int32) 11 rfl (by decide) ?_
      refine S.imul 12 rfl ?_
      refine S.iload_n 13 1 rfl rfl ?_
      refine S.iadd 14 rfl ?_
      refine S.lald 15 rfl rfl ?_
      refine S.aload_n 16 0 rfl rfl ?_
      refine S.getR 17 rfl fo_X4_39 rfl rfl rfl ?_
      refine S.iload_n 18 2 rfl rfl ?_
      refine S.bipush (12 : Int32) 19 rfl (by decide) ?_
      refine S.imul 20 rfl ?_
      refine S.iload_n 21 1 rfl rfl ?_
      refine S.iadd 22 rfl ?_
      refine S.lald 23 rfl rfl ?_
      refine S.lcmp 24 rfl ?_
      refine S.jn (fun j => ∀ (y1 : Int32), S (pI (zs b, I, J)) mX4_brightestTurn (rmd 1 0 0) 0 0 (0, 0) 40 [(0, .ref 36), (1, .int l1), (2, .int y1), (3, .int l3)] [] (zs b, I, J) (j y1)) (fun y1 => ?_) (fun j2 hj2 => ?_)
      · refine S.iinc (l3 + 1) [(3, .int (l3 + 1)), (0, .ref 36), (1, .int l1), (2, .int y1)] 28 3 rfl rfl rfl (by decide) rfl ?_
        refine S.goto 4 29 rfl (by decide) ?_
        refine S.sub (lv' := [(0, .ref 36), (1, .int l1), (2, .int y1), (3, .int (l3 + 1))]) [1, 2, 3, 0] rfl ?_
        exact ih _ _
      · refine S.if_le 40 25 rfl (by decide) (fun _ => ?_) (fun _ => ?_)
        · exact hj2 _
        · refine S.iload_n 26 3 rfl rfl ?_
          refine S.istore_n [(2, .int l3), (0, .ref 36), (1, .int l1), (3, .int l3)] 27 rfl (by decide) rfl ?_
          refine S.sub (lv' := [(0, .ref 36), (1, .int l1), (2, .int l3), (3, .int l3)]) [1, 2, 0, 3] rfl ?_
          exact hj2 _
def F_X4_brightestTurn (l1 : Int32) (I : HI) (J : HJ) : Option Int32 :=
  F_X4_brightestTurn_L4 l1 I J bgf (0 : Int32) (1 : Int32)
set_option maxRecDepth 100000 in
theorem cm_X4_brightestTurn (b : Bool) (l1 : Int32) (I : HI) (J : HJ) : CM mX4_brightestTurn 1 0 0 [.ref 36, .int l1] (zs b, I, J) (pI (zs b, I, J)) (F_X4_brightestTurn l1 I J) := by
  refine S.of okX4_brightestTurn pn_X4 (Nat.le_of_ble_eq_true rfl) ?_
  refine S.sub (lv' := [(0, .ref 36), (1, .int l1)]) [0, 1] rfl ?_
  unfold F_X4_brightestTurn
  refine S.iconst (0 : Int32) 0 rfl (by decide) ?_
  refine S.istore_n [(2, .int (0 : Int32)), (0, .ref 36), (1, .int l1)] 1 rfl (by decide) rfl ?_
  refine S.iconst (1 : Int32) 2 rfl (by decide) ?_
  refine S.istore_n [(3, .int (1 : Int32)), (2, .int (0 : Int32)), (0, .ref 36), (1, .int l1)] 3 rfl (by decide) rfl ?_
  refine S.sub (lv' := [(0, .ref 36), (1, .int l1), (2, .int (0 : Int32)), (3, .int (1 : Int32))]) [2, 3, 1, 0] rfl ?_
  refine s_X4_brightestTurn_L4 b _ _ _ bgf _ _
def F_X4_giveSlots_L2 (l1 : Int32) (J : HJ) (kx23 : HI → Option (Int64 × HI × HJ)) : Nat → Int32 → HI → Option (Int64 × HI × HJ)
  | 0, _, _ => none
  | K+1, l2, I =>
    if (I x_parting f_Parting_turns) ≤ l2 then
      kx23 I
    else
      bx l2 12 <|
      lb (ui I x_parting_slots (Int32.toNatClampNeg l2) (1 : Int32)) fun I5 =>
      F_X4_giveSlots_L2 l1 J kx23 K (l2 + 1) I5
set_option maxRecDepth 100000 in
theorem s_X4_giveSlots_L2 (b : Bool) (l1 : Int32) (J : HJ) (kx23 : HI → Option (Int64 × HI × HJ)) (hkx23 : ∀ (I1 : HI), S (fL (zs b)) mX4_giveSlots (rmd 26 0 0) 0 0 (0, 0) 23 [(0, .ref 36), (1, .int l1)] [] (zs b, I1, J) (kx23 I1)) : ∀ (K : Nat) (l2 : Int32) (I : HI), S (fL (zs b)) mX4_giveSlots (rmd 26 0 0) 0 0 (0, 0) 2 [(0, .ref 36), (1, .int l1), (2, .int l2)] [] (zs b, I, J) (F_X4_giveSlots_L2 l1 J kx23 K l2 I) := by
  intro K
  induction K with
  | zero => intro l2 I; exact S.none
  | succ K ih =>
    intro l2 I
    rw [F_X4_giveSlots_L2]
    refine S.iload_n 2 2 rfl rfl ?_
    refine S.aload_n 3 0 rfl rfl ?_
    refine S.getI 4 rfl fo_X4_87 rfl rfl ?_
    refine S.icmp_ge 23 5 rfl (by decide) (fun _ => ?_) (fun _ => ?_)
    · refine S.sub (lv' := [(0, .ref 36), (1, .int l1)]) [0, 1] rfl ?_
      exact hkx23 _
    · refine S.aload_n 6 0 rfl rfl ?_
      refine S.getR 7 rfl fo_X4_36 rfl rfl rfl ?_
      refine S.iload_n 8 2 rfl rfl ?_
      refine S.iconst (1 : Int32) 9 rfl (by decide) ?_
      refine S.iast 10 rfl rfl (fun I5 => ?_)
      refine S.iinc (l2 + 1) [(2, .int (l2 + 1)), (0, .ref 36), (1, .int l1)] 11 2 rfl rfl rfl (by decide) rfl ?_
      refine S.goto 2 12 rfl (by decide) ?_
      refine S.sub (lv' := [(0, .ref 36), (1, .int l1), (2, .int (l2 + 1))]) [1, 2, 0] rfl ?_
      exact ih _ _
def F_X4_giveSlots_L76 (l1 : Int32) (l2 : Int32) (l3 : Int32) (I : HI) (kx113 : HJ → Option (Int64 × HI × HJ)) : Nat → Int32 → HJ → Option (Int64 × HI × HJ)
  | 0, _, _ => none
  | K+1, l4, J =>
    if (I x_parting f_Parting_lamps) ≤ l4 then
      kx113 J
    else
      bx l4 12 <|
      bx ((l3 * (12 : Int32)) + l4) 144 <|
      bx l4 12 <|
      lb (uj J x_parting_sums (Int32.toNatClampNeg l4) ((J x_parting_sums (Int32.toNatClampNeg l4)) + (J x_parting_lights (Int32.toNatClampNeg ((l3 * (12 : Int32)) + l4))))) fun J15 =>
      F_X4_giveSlots_L76 l1 l2 l3 I kx113 K (l4 + 1) J15
set_option maxRecDepth 100000 in
theorem s_X4_giveSlots_L76 (b : Bool) (l1 : Int32) (l2 : Int32) (l3 : Int32) (I : HI) (kx113 : HJ → Option (Int64 × HI × HJ)) (hkx113 : ∀ (J1 : HJ), S (fL (zs b)) mX4_giveSlots (rmd 26 0 0) 0 0 (0, 0) 113 [(0, .ref 36), (1, .int l1), (2, .int l2)] [] (zs b, I, J1) (kx113 J1)) : ∀ (K : Nat) (l4 : Int32) (J : HJ), S (fL (zs b)) mX4_giveSlots (rmd 26 0 0) 0 0 (0, 0) 76 [(0, .ref 36), (1, .int l1), (2, .int l2), (3, .int l3), (4, .int l4)] [] (zs b, I, J) (F_X4_giveSlots_L76 l1 l2 l3 I kx113 K l4 J) := by
  intro K
  induction K with
  | zero => intro l4 J; exact S.none
  | succ K ih =>
    intro l4 J
    rw [F_X4_giveSlots_L76]
    refine S.iload 45 4 rfl rfl ?_
    refine S.aload_n 46 0 rfl rfl ?_
    refine S.getI 47 rfl fo_X4_54 rfl rfl ?_
    refine S.icmp_ge 113 48 rfl (by decide) (fun _ => ?_) (fun _ => ?_)
    · refine S.sub (lv' := [(0, .ref 36), (1, .int l1), (2, .int l2)]) [0, 1, 2] rfl ?_
      exact hkx113 _
    · refine S.aload_n 49 0 rfl rfl ?_
      refine S.getR 50 rfl fo_X4_43 rfl rfl rfl ?_
      refine S.iload 51 4 rfl rfl ?_
      refine S.dup2_11 52 rfl rfl rfl ?_
      refine S.lald 53 rfl rfl ?_
      refine S.aload_n 54 0 rfl rfl ?_
      refine S.getR 55 rfl fo_X4_39 rfl rfl rfl ?_
      refine S.iload_n 56 3 rfl rfl ?_
      refine S.bipush (12 : Int32) 57 rfl (by decide) ?_
      refine S.imul 58 rfl ?_
      refine S.iload 59 4 rfl rfl ?_
      refine S.iadd 60 rfl ?_
      refine S.lald 61 rfl rfl ?_
      refine S.ladd 62 rfl ?_
      refine S.last 63 rfl rfl (fun J15 => ?_)
      refine S.iinc (l4 + 1) [(4, .int (l4 + 1)), (0, .ref 36), (1, .int l1), (2, .int l2), (3, .int l3)] 64 4 rfl rfl rfl (by decide) rfl ?_
      refine S.goto 76 65 rfl (by decide) ?_
      refine S.sub (lv' := [(0, .ref 36), (1, .int l1), (2, .int l2), (3, .int l3), (4, .int (l4 + 1))]) [1, 2, 3, 4, 0] rfl ?_
      exact ih _ _
def F_X4_giveSlots_L49 (l1 : Int32) (kx119 : HI → HJ → Option (Int64 × HI × HJ)) : Nat → Int32 → HI → HJ → Option (Int64 × HI × HJ)
  | 0, _, _, _ => none
  | K+1, l2, I, J =>
    if l1 ≤ l2 then
      kx119 I J
    else
      cp (F_X4_dimmest I J) fun r12 =>
      cp (F_X4_brightestTurn r12 I J) fun r13 =>
      bx r13 12 <|
      bx r13 12 <|
      lb (ui I x_parting_slots (Int32.toNatClampNeg r13) ((I x_parting_slots (Int32.toNatClampNeg r13)) + (1 : Int32))) fun I14 =>
      F_X4_giveSlots_L76 l1 l2 r13 I14 (fun (J16 : HJ) =>
      F_X4_giveSlots_L49 l1 kx119 K (l2 + 1) I14 J16) bgf (0 : Int32) J
set_option maxRecDepth 100000 in
theorem s_X4_giveSlots_L49 (b : Bool) (l1 : Int32) (kx119 : HI → HJ → Option (Int64 × HI × HJ)) (hkx119 : ∀ (I1 : HI) (J1 : HJ), S (fL (zs b)) mX4_giveSlots (rmd 26 0 0) 0 0 (0, 0) 119 [(0, .ref 36)] [] (zs b, I1, J1) (kx119 I1 J1)) : ∀ (K : Nat) (l2 : Int32) (I : HI) (J : HJ), S (fL (zs b)) mX4_giveSlots (rmd 26 0 0) 0 0 (0, 0) 49 [(0, .ref 36), (1, .int l1), (2, .int l2)] [] (zs b, I, J) (F_X4_giveSlots_L49 l1 kx119 K l2 I J) := by
  intro K
  induction K with
  | zero => intro l2 I J; exact S.none
  | succ K ih =>
    intro l2 I J
    rw [F_X4_giveSlots_L49]
    refine S.iload_n 27 2 rfl rfl ?_
    refine S.iload_n 28 1 rfl rfl ?_
    refine S.icmp_ge 119 29 rfl (by decide) (fun _ => ?_) (fun _ => ?_)
    · refine S.sub (lv' := [(0, .ref 36)]) [0] rfl ?_
      exact hkx119 _ _
    · refine S.aload_n 30 0 rfl rfl ?_
      refine S.aload_n 31 0 rfl rfl ?_
      refine S.qVI (d := 1) (av := []) (rs := []) (b := 36) 32 rfl co_X4_149 rfl rfl rfl rfl rfl ⟨⟨Nat.le_of_ble_eq_true rfl, Nat.le_of_ble_eq_true rfl⟩, ⟨Nat.le_of_ble_eq_true rfl, Nat.le_of_ble_eq_true rfl⟩, Nat.le_of_ble_eq_true rfl⟩ (cm_X4_dimmest b I J) (fun r12 => ?_)
      refine S.qVI (d := 1) (av := [.int r12]) (rs := [.int r12]) (b := 36) 33 rfl co_X4_153 rfl rfl rfl rfl rfl ⟨⟨Nat.le_of_ble_eq_true rfl, Nat.le_of_ble_eq_true rfl⟩, ⟨Nat.le_of_ble_eq_true rfl, Nat.le_of_ble_eq_true rfl⟩, Nat.le_of_ble_eq_true rfl⟩ (cm_X4_brightestTurn b r12 I J) (fun r13 => ?_)
      refine S.istore_n [(3, .int r13), (0, .ref 36), (1, .int l1), (2, .int l2)] 34 rfl (by decide) rfl ?_
      refine S.aload_n 35 1 rfl rfl ?_
      refine S.getR 36 rfl fo_X4_36 rfl rfl rfl ?_
      refine S.iload_n 37 0 rfl rfl ?_
      refine S.dup2_11 38 rfl rfl rfl ?_
      refine S.iald 39 rfl rfl ?_
      refine S.iconst (1 : Int32) 40 rfl (by decide) ?_
      refine S.iadd 41 rfl ?_
      refine S.iast 42 rfl rfl (fun I14 => ?_)
      refine S.iconst (0 : Int32) 43 rfl (by decide) ?_
      refine S.istore [(4, .int (0 : Int32)), (3, .int r13), (0, .ref 36), (1, .int l1), (2, .int l2)] 44 rfl (by decide) rfl ?_
      refine S.sub (lv' := [(0, .ref 36), (1, .int l1), (2, .int l2), (3, .int r13), (4, .int (0 : Int32))]) [2, 3, 4, 1, 0] rfl ?_
      refine s_X4_giveSlots_L76 b _ _ _ _ _ (fun J16 => ?_) bgf _ _
      refine S.iinc (l2 + 1) [(2, .int (l2 + 1)), (0, .ref 36), (1, .int l1)] 66 2 rfl rfl rfl (by decide) rfl ?_
      refine S.goto 49 67 rfl (by decide) ?_
      refine S.sub (lv' := [(0, .ref 36), (1, .int l1), (2, .int (l2 + 1))]) [1, 2, 0] rfl ?_
      exact ih _ _ _
def F_X4_giveSlots (l1 : Int32) (I : HI) (J : HJ) : Option (Int64 × HI × HJ) :=
  F_X4_giveSlots_L2 l1 J (fun (I6 : HI) =>
  cl (F_J7_fill_d0a16_47 (0 : Int64) I6 J) fun _ I7 J8 =>
  cl (F_X4_takeLights I7 J8) fun _ I9 J10 =>
  if (I9 x_parting f_Parting_lamps) = 0 then
    some ((0 : Int64), I9, J10)
  else
    lb ((I9 x_parting f_Parting_turns)) fun x11 =>
    F_X4_giveSlots_L49 l1 (fun (I17 : HI) (J18 : HJ) =>
    cp (F_X4_dimmest I17 J18) fun r19 =>
    bx r19 12 <|
    some ((J18 x_parting_sums (Int32.toNatClampNeg r19)), I17, J18)) bgf x11 I9 J10) bgf (0 : Int32) I
set_option maxRecDepth 100000 in
theorem cm_X4_giveSlots (b : Bool) (l1 : Int32) (I : HI) (J : HJ) : CM mX4_giveSlots 26 0 0 [.ref 36, .int l1] (zs b, I, J) (fL (zs b)) (F_X4_giveSlots l1 I J) := by
  refine S.of okX4_giveSlots pn_X4 (Nat.le_of_ble_eq_true rfl) ?_
  refine S.sub (lv' := [(0, .ref 36), (1, .int l1)]) [0, 1] rfl ?_
  unfold F_X4_giveSlots
  refine S.iconst (0 : Int32) 0 rfl (by decide) ?_
  refine S.istore_n [(2, .int (0 : Int32)), (0, .ref 36), (1, .int l1)] 1 rfl (by decide) rfl ?_
  refine S.sub (lv' := [(0, .ref 36), (1, .int l1), (2, .int (0 : Int32))]) [1, 2, 0] rfl ?_
  refine s_X4_giveSlots_L2 b _ _ _ (fun I6 => ?_) bgf _ _
  refine S.aload_n 13 0 rfl rfl ?_
  refine S.getR 14 rfl fo_X4_43 rfl rfl rfl ?_
  refine S.lconst (0 : Int64) 15 rfl (by decide) ?_
  refine S.cSV (d := 1) (av := [.ref 47, .long (0 : Int64)]) (rs := [.long (0 : Int64), .ref 47]) 16 rfl co_X4_143 rfl rfl ⟨⟨Nat.le_of_ble_eq_true rfl, Nat.le_of_ble_eq_true rfl⟩, ⟨Nat.le_of_ble_eq_true rfl, Nat.le_of_ble_eq_true rfl⟩, Nat.le_of_ble_eq_true rfl⟩ (cm_J7_fill_d0a16_47 b (0 : Int64) I6 J) (fun _ I7 J8 => ?_)
  refine S.aload_n 17 0 rfl rfl ?_
  refine S.cVV (d := 25) (av := []) (rs := []) (b := 36) 18 rfl co_X4_146 rfl rfl rfl rfl rfl ⟨⟨Nat.le_of_ble_eq_true rfl, Nat.le_of_ble_eq_true rfl⟩, ⟨Nat.le_of_ble_eq_true rfl, Nat.le_of_ble_eq_true rfl⟩, Nat.le_of_ble_eq_true rfl⟩ (cm_X4_takeLights b I7 J8) (fun _ I9 J10 => ?_)
  refine S.aload_n 19 0 rfl rfl ?_
  refine S.getI 20 rfl fo_X4_54 rfl rfl ?_
  refine S.if_ne 44 21 rfl (by decide) (fun _ => ?_) (fun _ => ?_)
  · refine S.aload_n 24 0 rfl rfl ?_
    refine S.getI 25 rfl fo_X4_87 rfl rfl ?_
    refine S.nmi (fun x11 => ?_)
    refine S.istore_n [(2, .int x11), (0, .ref 36), (1, .int l1)] 26 rfl (by decide) rfl ?_
    refine S.sub (lv' := [(0, .ref 36), (1, .int l1), (2, .int x11)]) [1, 2, 0] rfl ?_
    refine s_X4_giveSlots_L49 b _ _ (fun I17 J18 => ?_) bgf _ _ _
    refine S.aload_n 68 0 rfl rfl ?_
    refine S.getR 69 rfl fo_X4_43 rfl rfl rfl ?_
    refine S.aload_n 70 0 rfl rfl ?_
    refine S.qVI (d := 1) (av := []) (rs := []) (b := 36) 71 rfl co_X4_149 rfl rfl rfl rfl rfl ⟨⟨Nat.le_of_ble_eq_true rfl, Nat.le_of_ble_eq_true rfl⟩, ⟨Nat.le_of_ble_eq_true rfl, Nat.le_of_ble_eq_true rfl⟩, Nat.le_of_ble_eq_true rfl⟩ (cm_X4_dimmest b I17 J18) (fun r19 => ?_)
    refine S.lald 72 rfl rfl ?_
    exact S.lret 73 rfl rfl (Nat.le_refl _) (Nat.le_refl _) rfl
  · refine S.lconst (0 : Int64) 22 rfl (by decide) ?_
    exact S.lret 23 rfl rfl (Nat.le_refl _) (Nat.le_refl _) rfl

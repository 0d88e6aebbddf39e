/-! computations and their proofs: X5 -/
def F_X5_addTest (l1 : Int32) (l2 : Int32) (I : HI) (J : HJ) : Option (Int32 × HI × HJ) :=
  if (I x_plan f_Plan_tests) < (8 : Int32) then
    bx (I x_plan f_Plan_tests) 8 <|
    lb (ui I x_plan_testHigh (Int32.toNatClampNeg (I x_plan f_Plan_tests)) l1) fun I4 =>
    bx (I4 x_plan f_Plan_tests) 8 <|
    lb (ui I4 x_plan_testLow (Int32.toNatClampNeg (I4 x_plan f_Plan_tests)) l2) fun I5 =>
    lb (ui I5 x_plan f_Plan_tests ((I5 x_plan f_Plan_tests) + (1 : Int32))) fun I6 =>
    some ((1 : Int32), I6, J)
  else
    some ((0 : Int32), I, J)
set_option maxRecDepth 100000 in
theorem cm_X5_addTest (b : Bool) (l1 : Int32) (l2 : Int32) (I : HI) (J : HJ) : CM mX5_addTest 1 0 0 [.ref 52, .int l1, .int l2] (zs b, I, J) (fI (zs b)) (F_X5_addTest l1 l2 I J) := by
  refine S.of okX5_addTest pn_X5 (Nat.le_of_ble_eq_true rfl) ?_
  refine S.sub (lv' := [(0, .ref 52), (1, .int l1), (2, .int l2)]) [0, 1, 2] rfl ?_
  unfold F_X5_addTest
  refine S.aload_n 0 0 rfl rfl ?_
  refine S.getI 1 rfl fo_X5_18 rfl rfl ?_
  refine S.bipush (8 : Int32) 2 rfl (by decide) ?_
  refine S.icmp_lt 11 3 rfl (by decide) (fun _ => ?_) (fun _ => ?_)
  · refine S.aload_n 6 0 rfl rfl ?_
    refine S.getR 7 rfl fo_X5_9 rfl rfl rfl ?_
    refine S.aload_n 8 0 rfl rfl ?_
    refine S.getI 9 rfl fo_X5_18 rfl rfl ?_
    refine S.iload_n 10 1 rfl rfl ?_
    refine S.iast 11 rfl rfl (fun I4 => ?_)
    refine S.aload_n 12 0 rfl rfl ?_
    refine S.getR 13 rfl fo_X5_15 rfl rfl rfl ?_
    refine S.aload_n 14 0 rfl rfl ?_
    refine S.getI 15 rfl fo_X5_18 rfl rfl ?_
    refine S.iload_n 16 2 rfl rfl ?_
    refine S.iast 17 rfl rfl (fun I5 => ?_)
    refine S.aload_n 18 0 rfl rfl ?_
    refine S.dup 19 rfl rfl ?_
    refine S.getI 20 rfl fo_X5_18 rfl rfl ?_
    refine S.iconst (1 : Int32) 21 rfl (by decide) ?_
    refine S.iadd 22 rfl ?_
    refine S.putI 23 rfl fo_X5_18 rfl rfl rfl rfl (fun _ hq => by cases hq; exact Or.inl rfl) (fun I6 => ?_)
    refine S.iconst (1 : Int32) 24 rfl (by decide) ?_
    exact S.iret 25 rfl rfl rfl (Nat.le_refl _) (Nat.le_refl _) rfl
  · refine S.iconst (0 : Int32) 4 rfl (by decide) ?_
    exact S.iret 5 rfl rfl rfl (Nat.le_refl _) (Nat.le_refl _) rfl
def F_X5_isSameRow_L2 (l1 : Int32) (l2 : Int32) (I : HI) (J : HJ) : Nat → Int32 → Option Int32
  | 0, _ => none
  | K+1, l3 =>
    if (I x_plan f_Plan_tests) ≤ l3 then
      some (1 : Int32)
    else
      bx (l1 + l3) 928 <|
      bx (l2 + l3) 928 <|
      if (lg_cmp (J x_plan_shown (Int32.toNatClampNeg (l1 + l3))) (J x_plan_shown (Int32.toNatClampNeg (l2 + l3)))) = 0 then
        F_X5_isSameRow_L2 l1 l2 I J K (l3 + 1)
      else
        some (0 : Int32)
set_option maxRecDepth 100000 in
theorem s_X5_isSameRow_L2 (b : Bool) (l1 : Int32) (l2 : Int32) (I : HI) (J : HJ) : ∀ (K : Nat) (l3 : Int32), S (pI (zs b, I, J)) mX5_isSameRow (rmd 1 0 0) 0 0 (0, 0) 2 [(0, .ref 52), (1, .int l1), (2, .int l2), (3, .int l3)] [] (zs b, I, J) (F_X5_isSameRow_L2 l1 l2 I J K l3) := by
  intro K
  induction K with
  | zero => intro l3; exact S.none
  | succ K ih =>
    intro l3
    rw [F_X5_isSameRow_L2]
    refine S.iload_n 2 3 rfl rfl ?_
    refine S.aload_n 3 0 rfl rfl ?_
    refine S.getI 4 rfl fo_X5_18 rfl rfl ?_
    refine S.icmp_ge 38 5 rfl (by decide) (fun _ => ?_) (fun _ => ?_)
    · refine S.iconst (1 : Int32) 24 rfl (by decide) ?_
      exact S.iret 25 rfl rfl rfl (Nat.le_refl _) (Nat.le_refl _) rfl
    · refine S.aload_n 6 0 rfl rfl ?_
      refine S.getR 7 rfl fo_X5_28 rfl rfl rfl ?_
      refine S.iload_n 8 1 rfl rfl ?_
      refine S.iload_n 9 3 rfl rfl ?_
      refine S.iadd 10 rfl ?_
      refine S.lald 11 rfl rfl ?_
      refine S.aload_n 12 0 rfl rfl ?_
      refine S.getR 13 rfl fo_X5_28 rfl rfl rfl ?_
      refine S.iload_n 14 2 rfl rfl ?_
      refine S.iload_n 15 3 rfl rfl ?_
      refine S.iadd 16 rfl ?_
      refine S.lald 17 rfl rfl ?_
      refine S.lcmp 18 rfl ?_
      refine S.if_eq 32 19 rfl (by decide) (fun _ => ?_) (fun _ => ?_)
      · refine S.iinc (l3 + 1) [(3, .int (l3 + 1)), (0, .ref 52), (1, .int l1), (2, .int l2)] 22 3 rfl rfl rfl (by decide) rfl ?_
        refine S.goto 2 23 rfl (by decide) ?_
        refine S.sub (lv' := [(0, .ref 52), (1, .int l1), (2, .int l2), (3, .int (l3 + 1))]) [1, 2, 3, 0] rfl ?_
        exact ih _
      · refine S.iconst (0 : Int32) 20 rfl (by decide) ?_
        exact S.iret 21 rfl rfl rfl (Nat.le_refl _) (Nat.le_refl _) rfl
def F_X5_isSameRow (l1 : Int32) (l2 : Int32) (I : HI) (J : HJ) : Option Int32 :=
  F_X5_isSameRow_L2 l1 l2 I J bgf (0 : Int32)
set_option maxRecDepth 100000 in
theorem cm_X5_isSameRow (b : Bool) (l1 : Int32) (l2 : Int32) (I : HI) (J : HJ) : CM mX5_isSameRow 1 0 0 [.ref 52, .int l1, .int l2] (zs b, I, J) (pI (zs b, I, J)) (F_X5_isSameRow l1 l2 I J) := by
  refine S.of okX5_isSameRow pn_X5 (Nat.le_of_ble_eq_true rfl) ?_
  refine S.sub (lv' := [(0, .ref 52), (1, .int l1), (2, .int l2)]) [0, 1, 2] rfl ?_
  unfold F_X5_isSameRow
  refine S.iconst (0 : Int32) 0 rfl (by decide) ?_
  refine S.istore_n [(3, .int (0 : Int32)), (0, .ref 52), (1, .int l1), (2, .int l2)] 1 rfl (by decide) rfl ?_
  refine S.sub (lv' := [(0, .ref 52), (1, .int l1), (2, .int l2), (3, .int (0 : Int32))]) [1, 2, 3, 0] rfl ?_
  refine s_X5_isSameRow_L2 b _ _ _ _ bgf _
def F_X5_findGroup_L10 (l1 : Int32) (l2 : Int32) (kx52 : HI → HJ → Option (Int32 × HI × HJ)) : Nat → Int32 → HI → HJ → Option (Int32 × HI × HJ)
  | 0, _, _, _ => none
  | K+1, l3, I, J =>
    if (I x_plan f_Plan_tests) ≤ l3 then
      kx52 I J
    else
      bx l3 8 <|
      bx l3 8 <|
      cl (F_X7_glowWith l1 (I x_plan_testHigh (Int32.toNatClampNeg l3)) (I x_plan_testLow (Int32.toNatClampNeg l3)) I J) fun r5 I6 J7 =>
      bx (l2 + l3) 928 <|
      lb (uj J7 x_plan_shown (Int32.toNatClampNeg (l2 + l3)) r5) fun J8 =>
      F_X5_findGroup_L10 l1 l2 kx52 K (l3 + 1) I6 J8
set_option maxRecDepth 100000 in
theorem s_X5_findGroup_L10 (b : Bool) (l1 : Int32) (l2 : Int32) (kx52 : HI → HJ → Option (Int32 × HI × HJ)) (hkx52 : ∀ (I1 : HI) (J1 : HJ), S (fI (zs b)) mX5_findGroup (rmd 25 0 0) 0 0 (0, 0) 52 [(0, .ref 52), (2, .int l2)] [] (zs b, I1, J1) (kx52 I1 J1)) : ∀ (K : Nat) (l3 : Int32) (I : HI) (J : HJ), S (fI (zs b)) mX5_findGroup (rmd 25 0 0) 0 0 (0, 0) 10 [(0, .ref 52), (1, .int l1), (2, .int l2), (3, .int l3)] [] (zs b, I, J) (F_X5_findGroup_L10 l1 l2 kx52 K l3 I J) := by
  intro K
  induction K with
  | zero => intro l3 I J; exact S.none
  | succ K ih =>
    intro l3 I J
    rw [F_X5_findGroup_L10]
    refine S.iload_n 7 3 rfl rfl ?_
    refine S.aload_n 8 0 rfl rfl ?_
    refine S.getI 9 rfl fo_X5_18 rfl rfl ?_
    refine S.icmp_ge 52 10 rfl (by decide) (fun _ => ?_) (fun _ => ?_)
    · refine S.sub (lv' := [(0, .ref 52), (2, .int l2)]) [0, 2] rfl ?_
      exact hkx52 _ _
    · refine S.aload_n 11 0 rfl rfl ?_
      refine S.getR 12 rfl fo_X5_28 rfl rfl rfl ?_
      refine S.iload_n 13 2 rfl rfl ?_
      refine S.iload_n 14 3 rfl rfl ?_
      refine S.iadd 15 rfl ?_
      refine S.aload_n 16 0 rfl rfl ?_
      refine S.getR 17 rfl fo_X5_47 rfl rfl rfl ?_
      refine S.iload_n 18 1 rfl rfl ?_
      refine S.aload_n 19 0 rfl rfl ?_
      refine S.getR 20 rfl fo_X5_9 rfl rfl rfl ?_
      refine S.iload_n 21 3 rfl rfl ?_
      refine S.iald 22 rfl rfl ?_
      refine S.aload_n 23 0 rfl rfl ?_
      refine S.getR 24 rfl fo_X5_15 rfl rfl rfl ?_
      refine S.iload_n 25 3 rfl rfl ?_
      refine S.iald 26 rfl rfl ?_
      refine S.cVL (d := 24) (av := [.int l1, .int (I x_plan_testHigh (Int32.toNatClampNeg l3)), .int (I x_plan_testLow (Int32.toNatClampNeg l3))]) (rs := [.int (I x_plan_testLow (Int32.toNatClampNeg l3)), .int (I x_plan_testHigh (Int32.toNatClampNeg l3)), .int l1]) (b := 48) 27 rfl co_X5_74 rfl rfl rfl rfl rfl ⟨⟨Nat.le_of_ble_eq_true rfl, Nat.le_of_ble_eq_true rfl⟩, ⟨Nat.le_of_ble_eq_true rfl, Nat.le_of_ble_eq_true rfl⟩, Nat.le_of_ble_eq_true rfl⟩ (cm_X7_glowWith b l1 (I x_plan_testHigh (Int32.toNatClampNeg l3)) (I x_plan_testLow (Int32.toNatClampNeg l3)) I J) (fun r5 I6 J7 => ?_)
      refine S.last 28 rfl rfl (fun J8 => ?_)
      refine S.iinc (l3 + 1) [(3, .int (l3 + 1)), (0, .ref 52), (1, .int l1), (2, .int l2)] 29 3 rfl rfl rfl (by decide) rfl ?_
      refine S.goto 10 30 rfl (by decide) ?_
      refine S.sub (lv' := [(0, .ref 52), (1, .int l1), (2, .int l2), (3, .int (l3 + 1))]) [1, 2, 3, 0] rfl ?_
      exact ih _ _ _
def F_X5_findGroup_L54 (l2 : Int32) (I : HI) (J : HJ) (kx82 : Option (Int32 × HI × HJ)) : Nat → Int32 → Option (Int32 × HI × HJ)
  | 0, _ => none
  | K+1, l3 =>
    if (I x_plan f_Plan_groups) ≤ l3 then
      kx82
    else
      cp (F_X5_isSameRow (l3 * (8 : Int32)) l2 I J) fun r11 =>
      if r11 = 0 then
        F_X5_findGroup_L54 l2 I J kx82 K (l3 + 1)
      else
        some (l3, I, J)
set_option maxRecDepth 100000 in
theorem s_X5_findGroup_L54 (b : Bool) (l2 : Int32) (I : HI) (J : HJ) (kx82 : Option (Int32 × HI × HJ)) (hkx82 : S (fI (zs b)) mX5_findGroup (rmd 25 0 0) 0 0 (0, 0) 82 [(0, .ref 52)] [] (zs b, I, J) (kx82)) : ∀ (K : Nat) (l3 : Int32), S (fI (zs b)) mX5_findGroup (rmd 25 0 0) 0 0 (0, 0) 54 [(0, .ref 52), (2, .int l2), (3, .int l3)] [] (zs b, I, J) (F_X5_findGroup_L54 l2 I J kx82 K l3) := by
  intro K
  induction K with
  | zero => intro l3; exact S.none
  | succ K ih =>
    intro l3
    rw [F_X5_findGroup_L54]
    refine S.iload_n 33 2 rfl rfl ?_
    refine S.aload_n 34 0 rfl rfl ?_
    refine S.getI 35 rfl fo_X5_25 rfl rfl ?_
    refine S.icmp_ge 82 36 rfl (by decide) (fun _ => ?_) (fun _ => ?_)
    · refine S.sub (lv' := [(0, .ref 52)]) [0] rfl ?_
      exact hkx82
    · refine S.aload_n 37 0 rfl rfl ?_
      refine S.iload_n 38 2 rfl rfl ?_
      refine S.bipush (8 : Int32) 39 rfl (by decide) ?_
      refine S.imul 40 rfl ?_
      refine S.iload_n 41 1 rfl rfl ?_
      refine S.qVI (d := 1) (av := [.int (l3 * (8 : Int32)), .int l2]) (rs := [.int l2, .int (l3 * (8 : Int32))]) (b := 52) 42 rfl co_X5_78 rfl rfl rfl rfl rfl ⟨⟨Nat.le_of_ble_eq_true rfl, Nat.le_of_ble_eq_true rfl⟩, ⟨Nat.le_of_ble_eq_true rfl, Nat.le_of_ble_eq_true rfl⟩, Nat.le_of_ble_eq_true rfl⟩ (cm_X5_isSameRow b (l3 * (8 : Int32)) l2 I J) (fun r11 => ?_)
      refine S.if_eq 76 43 rfl (by decide) (fun _ => ?_) (fun _ => ?_)
      · refine S.iinc (l3 + 1) [(3, .int (l3 + 1)), (0, .ref 52), (2, .int l2)] 46 2 rfl rfl rfl (by decide) rfl ?_
        refine S.goto 54 47 rfl (by decide) ?_
        refine S.sub (lv' := [(0, .ref 52), (2, .int l2), (3, .int (l3 + 1))]) [1, 2, 0] rfl ?_
        exact ih _
      · refine S.iload_n 44 2 rfl rfl ?_
        exact S.iret 45 rfl rfl rfl (Nat.le_refl _) (Nat.le_refl _) rfl
def F_X5_findGroup (l1 : Int32) (I : HI) (J : HJ) : Option (Int32 × HI × HJ) :=
  lb (((I x_plan f_Plan_groups) * (8 : Int32))) fun x4 =>
  F_X5_findGroup_L10 l1 x4 (fun (I9 : HI) (J10 : HJ) =>
  F_X5_findGroup_L54 x4 I9 J10 (lb (ui I9 x_plan f_Plan_groups ((I9 x_plan f_Plan_groups) + (1 : Int32))) fun I12 =>
  some (((I12 x_plan f_Plan_groups) - (1 : Int32)), I12, J10)) bgf (0 : Int32)) bgf (0 : Int32) I J
set_option maxRecDepth 100000 in
theorem cm_X5_findGroup (b : Bool) (l1 : Int32) (I : HI) (J : HJ) : CM mX5_findGroup 25 0 0 [.ref 52, .int l1] (zs b, I, J) (fI (zs b)) (F_X5_findGroup l1 I J) := by
  refine S.of okX5_findGroup pn_X5 (Nat.le_of_ble_eq_true rfl) ?_
  refine S.sub (lv' := [(0, .ref 52), (1, .int l1)]) [0, 1] rfl ?_
  unfold F_X5_findGroup
  refine S.aload_n 0 0 rfl rfl ?_
  refine S.getI 1 rfl fo_X5_25 rfl rfl ?_
  refine S.bipush (8 : Int32) 2 rfl (by decide) ?_
  refine S.imul 3 rfl ?_
  refine S.nmi (fun x4 => ?_)
  refine S.istore_n [(2, .int x4), (0, .ref 52), (1, .int l1)] 4 rfl (by decide) rfl ?_
  refine S.iconst (0 : Int32) 5 rfl (by decide) ?_
  refine S.istore_n [(3, .int (0 : Int32)), (2, .int x4), (0, .ref 52), (1, .int l1)] 6 rfl (by decide) rfl ?_
  refine S.sub (lv' := [(0, .ref 52), (1, .int l1), (2, .int x4), (3, .int (0 : Int32))]) [2, 3, 1, 0] rfl ?_
  refine s_X5_findGroup_L10 b _ _ _ (fun I9 J10 => ?_) bgf _ _ _
  refine S.iconst (0 : Int32) 31 rfl (by decide) ?_
  refine S.istore_n [(3, .int (0 : Int32)), (0, .ref 52), (2, .int x4)] 32 rfl (by decide) rfl ?_
  refine S.sub (lv' := [(0, .ref 52), (2, .int x4), (3, .int (0 : Int32))]) [1, 2, 0] rfl ?_
  refine s_X5_findGroup_L54 b _ _ _ _ ?_ bgf _
  refine S.aload_n 48 0 rfl rfl ?_
  refine S.dup 49 rfl rfl ?_
  refine S.getI 50 rfl fo_X5_25 rfl rfl ?_
  refine S.iconst (1 : Int32) 51 rfl (by decide) ?_
  refine S.iadd 52 rfl ?_
  refine S.putI 53 rfl fo_X5_25 rfl rfl rfl rfl (fun _ hq => by cases hq; exact Or.inl rfl) (fun I12 => ?_)
  refine S.aload_n 54 0 rfl rfl ?_
  refine S.getI 55 rfl fo_X5_25 rfl rfl ?_
  refine S.iconst (1 : Int32) 56 rfl (by decide) ?_
  refine S.isub 57 rfl ?_
  exact S.iret 58 rfl rfl rfl (Nat.le_refl _) (Nat.le_refl _) rfl
def F_X5_place (l0 : Int32) (l1 : Int32) : Option Int32 :=
  some ((l0 * (116 : Int32)) + l1)
set_option maxRecDepth 100000 in
theorem cm_X5_place (h : Hp) (l0 : Int32) (l1 : Int32) : CM mX5_place 1 0 0 [.int l0, .int l1] h (pI h) (F_X5_place l0 l1) := by
  refine S.of okX5_place pn_X5 (Nat.le_of_ble_eq_true rfl) ?_
  refine S.sub (lv' := [(0, .int l0), (1, .int l1)]) [0, 1] rfl ?_
  unfold F_X5_place
  refine S.iload_n 0 0 rfl rfl ?_
  refine S.bipush (116 : Int32) 1 rfl (by decide) ?_
  refine S.imul 2 rfl ?_
  refine S.iload_n 3 1 rfl rfl ?_
  refine S.iadd 4 rfl ?_
  exact S.iret 5 rfl rfl rfl (Nat.le_refl _) (Nat.le_refl _) rfl
def F_X5_isOneCell (l1 : Int32) (l2 : Int32) (l3 : Int32) (l4 : Int32) (I : HI) (J : HJ) : Option Int32 :=
  bx (l3 + l1) 29696 <|
  bx (l3 + l2) 29696 <|
  if (I p_cells (Int32.toNatClampNeg (l3 + l1))) = (I p_cells (Int32.toNatClampNeg (l3 + l2))) then
    bx ((l1 * (8 : Int32)) + l4) 928 <|
    bx ((l2 * (8 : Int32)) + l4) 928 <|
    if (lg_cmp (J x_plan_shown (Int32.toNatClampNeg ((l1 * (8 : Int32)) + l4))) (J x_plan_shown (Int32.toNatClampNeg ((l2 * (8 : Int32)) + l4)))) = 0 then
      some (1 : Int32)
    else
      some (0 : Int32)
  else
    some (0 : Int32)
set_option maxRecDepth 100000 in
theorem cm_X5_isOneCell (l1 : Int32) (l2 : Int32) (l3 : Int32) (l4 : Int32) (I : HI) (J : HJ) : CM mX5_isOneCell 1 0 0 [.ref 52, .int l1, .int l2, .int l3, .int l4] (zs true, I, J) (pI (zs true, I, J)) (F_X5_isOneCell l1 l2 l3 l4 I J) := by
  refine S.of okX5_isOneCell pn_X5 (Nat.le_of_ble_eq_true rfl) ?_
  refine S.sub (lv' := [(0, .ref 52), (1, .int l1), (2, .int l2), (3, .int l3), (4, .int l4)]) [0, 1, 2, 3, 4] rfl ?_
  unfold F_X5_isOneCell
  refine S.aload_n 0 0 rfl rfl ?_
  refine S.getR 1 rfl fo_X5_41 rfl rfl rfl ?_
  refine S.iload_n 2 3 rfl rfl ?_
  refine S.iload_n 3 1 rfl rfl ?_
  refine S.iadd 4 rfl ?_
  refine S.iald 5 rfl rfl ?_
  refine S.aload_n 6 0 rfl rfl ?_
  refine S.getR 7 rfl fo_X5_41 rfl rfl rfl ?_
  refine S.iload_n 8 3 rfl rfl ?_
  refine S.iload_n 9 2 rfl rfl ?_
  refine S.iadd 10 rfl ?_
  refine S.iald 11 rfl rfl ?_
  refine S.icmp_ne 51 12 rfl (by decide) (fun _ => ?_) (fun _ => ?_)
  · refine S.iconst (0 : Int32) 33 rfl (by decide) ?_
    exact S.iret 34 rfl rfl rfl (Nat.le_refl _) (Nat.le_refl _) rfl
  · refine S.aload_n 13 0 rfl rfl ?_
    refine S.getR 14 rfl fo_X5_28 rfl rfl rfl ?_
    refine S.iload_n 15 1 rfl rfl ?_
    refine S.bipush (8 : Int32) 16 rfl (by decide) ?_
    refine S.imul 17 rfl ?_
    refine S.iload 18 4 rfl rfl ?_
    refine S.iadd 19 rfl ?_
    refine S.lald 20 rfl rfl ?_
    refine S.aload_n 21 0 rfl rfl ?_
    refine S.getR 22 rfl fo_X5_28 rfl rfl rfl ?_
    refine S.iload_n 23 2 rfl rfl ?_
    refine S.bipush (8 : Int32) 24 rfl (by decide) ?_
    refine S.imul 25 rfl ?_
    refine S.iload 26 4 rfl rfl ?_
    refine S.iadd 27 rfl ?_
    refine S.lald 28 rfl rfl ?_
    refine S.lcmp 29 rfl ?_
    refine S.if_ne 51 30 rfl (by decide) (fun _ => ?_) (fun _ => ?_)
    · refine S.iconst (0 : Int32) 33 rfl (by decide) ?_
      exact S.iret 34 rfl rfl rfl (Nat.le_refl _) (Nat.le_refl _) rfl
    · refine S.iconst (1 : Int32) 31 rfl (by decide) ?_
      refine S.goto 52 32 rfl (by decide) ?_
      exact S.iret 34 rfl rfl rfl (Nat.le_refl _) (Nat.le_refl _) rfl
def F_X5_partCells_L83 (l1 : Int32) (l2 : Int32) (l3 : Int32) (l4 : Int32) (l5 : Int32) (I : HI) (J : HJ) (kx109 : Int32 → Option (Unit × HI × HJ)) : Nat → Int32 → Option (Unit × HI × HJ)
  | 0, _ => none
  | K+1, l6 =>
    if l5 ≤ l6 then
      kx109 l6
    else
      cp (F_X5_isOneCell l6 l5 l3 l2 I J) fun r11 =>
      if r11 = 0 then
        F_X5_partCells_L83 l1 l2 l3 l4 l5 I J kx109 K (l6 + 1)
      else
        kx109 l6
set_option maxRecDepth 100000 in
theorem s_X5_partCells_L83 (l1 : Int32) (l2 : Int32) (l3 : Int32) (l4 : Int32) (l5 : Int32) (I : HI) (J : HJ) (kx109 : Int32 → Option (Unit × HI × HJ)) (hkx109 : ∀ (y6 : Int32), S (fV (zs true)) mX5_partCells (rmd 2 0 0) 0 0 (0, 0) 109 [(0, .ref 52), (1, .int l1), (2, .int l2), (3, .int l3), (4, .int l4), (5, .int l5), (6, .int y6)] [] (zs true, I, J) (kx109 y6)) : ∀ (K : Nat) (l6 : Int32), S (fV (zs true)) mX5_partCells (rmd 2 0 0) 0 0 (0, 0) 83 [(0, .ref 52), (1, .int l1), (2, .int l2), (3, .int l3), (4, .int l4), (5, .int l5), (6, .int l6)] [] (zs true, I, J) (F_X5_partCells_L83 l1 l2 l3 l4 l5 I J kx109 K l6) := by
  intro K
  induction K with
  | zero => intro l6; exact S.none
  | succ K ih =>
    intro l6
    rw [F_X5_partCells_L83]
    refine S.iload 52 6 rfl rfl ?_
    refine S.iload 53 5 rfl rfl ?_
    refine S.icmp_ge 109 54 rfl (by decide) (fun _ => ?_) (fun _ => ?_)
    · exact hkx109 _
    · refine S.aload_n 55 0 rfl rfl ?_
      refine S.iload 56 6 rfl rfl ?_
      refine S.iload 57 5 rfl rfl ?_
      refine S.iload_n 58 3 rfl rfl ?_
      refine S.iload_n 59 2 rfl rfl ?_
      refine S.qVI (d := 1) (av := [.int l6, .int l5, .int l3, .int l2]) (rs := [.int l2, .int l3, .int l5, .int l6]) (b := 52) 60 rfl co_X5_87 rfl rfl rfl rfl rfl ⟨⟨Nat.le_of_ble_eq_true rfl, Nat.le_of_ble_eq_true rfl⟩, ⟨Nat.le_of_ble_eq_true rfl, Nat.le_of_ble_eq_true rfl⟩, Nat.le_of_ble_eq_true rfl⟩ (cm_X5_isOneCell l6 l5 l3 l2 I J) (fun r11 => ?_)
      refine S.if_ne 109 61 rfl (by decide) (fun _ => ?_) (fun _ => ?_)
      · exact hkx109 _
      · refine S.iinc (l6 + 1) [(6, .int (l6 + 1)), (0, .ref 52), (1, .int l1), (2, .int l2), (3, .int l3), (4, .int l4), (5, .int l5)] 62 6 rfl rfl rfl (by decide) rfl ?_
        refine S.goto 83 63 rfl (by decide) ?_
        refine S.sub (lv' := [(0, .ref 52), (1, .int l1), (2, .int l2), (3, .int l3), (4, .int l4), (5, .int l5), (6, .int (l6 + 1))]) [1, 2, 3, 4, 5, 6, 0] rfl ?_
        exact ih _
def F_X5_partCells_L53 (l1 : Int32) (l2 : Int32) (l3 : Int32) (l4 : Int32) (J : HJ) : Nat → Int32 → HI → Option (Unit × HI × HJ)
  | 0, _, _ => none
  | K+1, l5, I =>
    if (I x_plan f_Plan_groups) ≤ l5 then
      some ((), I, J)
    else
      lb (fun (y9 : Int32) =>
      F_X5_partCells_L83 l1 l2 l3 l4 l5 I J (fun (y12 : Int32) =>
      cp (F_X5_place l1 l5) fun r13 =>
      bx r13 29696 <|
      lb (ui I p_cells (Int32.toNatClampNeg r13) y12) fun I14 =>
      bx l1 256 <|
      lb (fun (y15 : Int32) (y16 : Int32) (y17 : Int32) =>
      bx y15 256 <|
      lb (ui I14 x_plan_parts (Int32.toNatClampNeg y15) (y16 + y17)) fun I19 =>
      F_X5_partCells_L53 l1 l2 l3 l4 J K (l5 + 1) I19) fun j18 =>
      if y12 = l5 then
        j18 l1 (I14 x_plan_parts (Int32.toNatClampNeg l1)) (1 : Int32)
      else
        j18 l1 (I14 x_plan_parts (Int32.toNatClampNeg l1)) (0 : Int32)) bgf y9) fun j10 =>
      if l4 = 0 then
        bx (l3 + l5) 29696 <|
        j10 (I p_cells (Int32.toNatClampNeg (l3 + l5)))
      else
        j10 l5
set_option maxRecDepth 100000 in
theorem s_X5_partCells_L53 (l1 : Int32) (l2 : Int32) (l3 : Int32) (l4 : Int32) (J : HJ) : ∀ (K : Nat) (l5 : Int32) (I : HI), S (fV (zs true)) mX5_partCells (rmd 2 0 0) 0 0 (0, 0) 53 [(0, .ref 52), (1, .int l1), (2, .int l2), (3, .int l3), (4, .int l4), (5, .int l5)] [] (zs true, I, J) (F_X5_partCells_L53 l1 l2 l3 l4 J K l5 I) := by
  intro K
  induction K with
  | zero => intro l5 I; exact S.none
  | succ K ih =>
    intro l5 I
    rw [F_X5_partCells_L53]
    refine S.iload 37 5 rfl rfl ?_
    refine S.aload_n 38 0 rfl rfl ?_
    refine S.getI 39 rfl fo_X5_25 rfl rfl ?_
    refine S.icmp_ge 149 40 rfl (by decide) (fun _ => ?_) (fun _ => ?_)
    · exact S.vret 86 rfl rfl (Nat.le_refl _) (Nat.le_refl _) rfl
    · refine S.iload 41 4 rfl rfl ?_
      refine S.jn (fun j => ∀ (y9 : Int32), S (fV (zs true)) mX5_partCells (rmd 2 0 0) 0 0 (0, 0) 81 [(0, .ref 52), (1, .int l1), (2, .int l2), (3, .int l3), (4, .int l4), (5, .int l5)] [.int y9] (zs true, I, J) (j y9)) (fun y9 => ?_) (fun j10 hj10 => ?_)
      · refine S.istore [(6, .int y9), (0, .ref 52), (1, .int l1), (2, .int l2), (3, .int l3), (4, .int l4), (5, .int l5)] 51 rfl (by decide) rfl ?_
        refine S.sub (lv' := [(0, .ref 52), (1, .int l1), (2, .int l2), (3, .int l3), (4, .int l4), (5, .int l5), (6, .int y9)]) [1, 2, 3, 4, 5, 6, 0] rfl ?_
        refine s_X5_partCells_L83 _ _ _ _ _ _ _ _ (fun y12 => ?_) bgf _
        refine S.aload_n 64 0 rfl rfl ?_
        refine S.getR 65 rfl fo_X5_41 rfl rfl rfl ?_
        refine S.iload_n 66 1 rfl rfl ?_
        refine S.iload 67 5 rfl rfl ?_
        refine S.qSI (d := 1) (av := [.int l1, .int l5]) (rs := [.int l5, .int l1]) 68 rfl co_X5_63 rfl rfl ⟨⟨Nat.le_of_ble_eq_true rfl, Nat.le_of_ble_eq_true rfl⟩, ⟨Nat.le_of_ble_eq_true rfl, Nat.le_of_ble_eq_true rfl⟩, Nat.le_of_ble_eq_true rfl⟩ (cm_X5_place (zs true, I, J) l1 l5) (fun r13 => ?_)
        refine S.iload 69 6 rfl rfl ?_
        refine S.iast 70 rfl rfl (fun I14 => ?_)
        refine S.aload_n 71 0 rfl rfl ?_
        refine S.getR 72 rfl fo_X5_38 rfl rfl rfl ?_
        refine S.iload_n 73 1 rfl rfl ?_
        refine S.dup2_11 74 rfl rfl rfl ?_
        refine S.iald 75 rfl rfl ?_
        refine S.iload 76 6 rfl rfl ?_
        refine S.iload 77 5 rfl rfl ?_
        refine S.jn (fun j => ∀ (y15 : Int32) (y16 : Int32) (y17 : Int32), S (fV (zs true)) mX5_partCells (rmd 2 0 0) 0 0 (0, 0) 141 [(0, .ref 52), (1, .int l1), (2, .int l2), (3, .int l3), (4, .int l4), (5, .int l5)] [.int y17, .int y16, .int y15, .ref 59] (zs true, I14, J) (j y15 y16 y17)) (fun y15 y16 y17 => ?_) (fun j18 hj18 => ?_)
        · refine S.iadd 82 rfl ?_
          refine S.iast 83 rfl rfl (fun I19 => ?_)
          refine S.iinc (l5 + 1) [(5, .int (l5 + 1)), (0, .ref 52), (1, .int l1), (2, .int l2), (3, .int l3), (4, .int l4)] 84 5 rfl rfl rfl (by decide) rfl ?_
          refine S.goto 53 85 rfl (by decide) ?_
          refine S.sub (lv' := [(0, .ref 52), (1, .int l1), (2, .int l2), (3, .int l3), (4, .int l4), (5, .int (l5 + 1))]) [1, 2, 3, 4, 5, 0] rfl ?_
          exact ih _ _
        · refine S.icmp_ne 140 78 rfl (by decide) (fun _ => ?_) (fun _ => ?_)
          · refine S.iconst (0 : Int32) 81 rfl (by decide) ?_
            refine S.sub (lv' := [(0, .ref 52), (1, .int l1), (2, .int l2), (3, .int l3), (4, .int l4), (5, .int l5)]) [0, 1, 2, 3, 4, 5] rfl ?_
            exact hj18 _ _ _
          · refine S.iconst (1 : Int32) 79 rfl (by decide) ?_
            refine S.goto 141 80 rfl (by decide) ?_
            refine S.sub (lv' := [(0, .ref 52), (1, .int l1), (2, .int l2), (3, .int l3), (4, .int l4), (5, .int l5)]) [0, 1, 2, 3, 4, 5] rfl ?_
            exact hj18 _ _ _
      · refine S.if_eq 72 42 rfl (by decide) (fun _ => ?_) (fun _ => ?_)
        · refine S.aload_n 45 0 rfl rfl ?_
          refine S.getR 46 rfl fo_X5_41 rfl rfl rfl ?_
          refine S.iload_n 47 3 rfl rfl ?_
          refine S.iload 48 5 rfl rfl ?_
          refine S.iadd 49 rfl ?_
          refine S.iald 50 rfl rfl ?_
          exact hj10 _
        · refine S.iload 43 5 rfl rfl ?_
          refine S.goto 81 44 rfl (by decide) ?_
          exact hj10 _
def F_X5_partCells (l1 : Int32) (I : HI) (J : HJ) : Option (Unit × HI × HJ) :=
  cp (F_J6_numberOfTrailingZeros_0f7a4 l1) fun r4 =>
  cp (F_X5_place (l1 &&& ((oshl (1 : Int32) r4) ^^^ (-1 : Int32))) (0 : Int32)) fun r5 =>
  bx (l1 &&& ((oshl (1 : Int32) r4) ^^^ (-1 : Int32))) 256 <|
  lb (fun (y6 : Int32) =>
  bx l1 256 <|
  lb (ui I x_plan_parts (Int32.toNatClampNeg l1) (0 : Int32)) fun I8 =>
  F_X5_partCells_L53 l1 r4 r5 y6 J bgf (0 : Int32) I8) fun j7 =>
  if (I x_plan_parts (Int32.toNatClampNeg (l1 &&& ((oshl (1 : Int32) r4) ^^^ (-1 : Int32))))) = (I x_plan f_Plan_groups) then
    j7 (1 : Int32)
  else
    j7 (0 : Int32)
set_option maxRecDepth 100000 in
theorem cm_X5_partCells (l1 : Int32) (I : HI) (J : HJ) : CM mX5_partCells 2 0 0 [.ref 52, .int l1] (zs true, I, J) (fV (zs true)) (F_X5_partCells l1 I J) := by
  refine S.of okX5_partCells pn_X5 (Nat.le_of_ble_eq_true rfl) ?_
  refine S.sub (lv' := [(0, .ref 52), (1, .int l1)]) [0, 1] rfl ?_
  unfold F_X5_partCells
  refine S.iload_n 0 1 rfl rfl ?_
  refine S.qSI (d := 1) (av := [.int l1]) (rs := [.int l1]) 1 rfl co_X5_82 rfl rfl ⟨⟨Nat.le_of_ble_eq_true rfl, Nat.le_of_ble_eq_true rfl⟩, ⟨Nat.le_of_ble_eq_true rfl, Nat.le_of_ble_eq_true rfl⟩, Nat.le_of_ble_eq_true rfl⟩ (cm_J6_numberOfTrailingZeros_0f7a4 (zs true, I, J) l1) (fun r4 => ?_)
  refine S.istore_n [(2, .int r4), (0, .ref 52), (1, .int l1)] 2 rfl (by decide) rfl ?_
  refine S.iload_n 3 2 rfl rfl ?_
  refine S.iconst (1 : Int32) 4 rfl (by decide) ?_
  refine S.iload_n 5 0 rfl rfl ?_
  refine S.ishl 6 rfl ?_
  refine S.iconst (-1 : Int32) 7 rfl (by decide) ?_
  refine S.ixor 8 rfl ?_
  refine S.iand 9 rfl ?_
  refine S.iconst (0 : Int32) 10 rfl (by decide) ?_
  refine S.qSI (d := 1) (av := [.int (l1 &&& ((oshl (1 : Int32) r4) ^^^ (-1 : Int32))), .int (0 : Int32)]) (rs := [.int (0 : Int32), .int (l1 &&& ((oshl (1 : Int32) r4) ^^^ (-1 : Int32)))]) 11 rfl co_X5_63 rfl rfl ⟨⟨Nat.le_of_ble_eq_true rfl, Nat.le_of_ble_eq_true rfl⟩, ⟨Nat.le_of_ble_eq_true rfl, Nat.le_of_ble_eq_true rfl⟩, Nat.le_of_ble_eq_true rfl⟩ (cm_X5_place (zs true, I, J) (l1 &&& ((oshl (1 : Int32) r4) ^^^ (-1 : Int32))) (0 : Int32)) (fun r5 => ?_)
  refine S.istore_n [(3, .int r5), (2, .int r4), (0, .ref 52), (1, .int l1)] 12 rfl (by decide) rfl ?_
  refine S.aload_n 13 2 rfl rfl ?_
  refine S.getR 14 rfl fo_X5_38 rfl rfl rfl ?_
  refine S.iload_n 15 3 rfl rfl ?_
  refine S.iconst (1 : Int32) 16 rfl (by decide) ?_
  refine S.iload_n 17 1 rfl rfl ?_
  refine S.ishl 18 rfl ?_
  refine S.iconst (-1 : Int32) 19 rfl (by decide) ?_
  refine S.ixor 20 rfl ?_
  refine S.iand 21 rfl ?_
  refine S.iald 22 rfl rfl ?_
  refine S.aload_n 23 2 rfl rfl ?_
  refine S.getI 24 rfl fo_X5_25 rfl rfl ?_
  refine S.jn (fun j => ∀ (y6 : Int32), S (fV (zs true)) mX5_partCells (rmd 2 0 0) 0 0 (0, 0) 41 [(0, .ref 52), (1, .int l1), (2, .int r4), (3, .int r5)] [.int y6] (zs true, I, J) (j y6)) (fun y6 => ?_) (fun j7 hj7 => ?_)
  · refine S.istore [(4, .int y6), (0, .ref 52), (1, .int l1), (2, .int r4), (3, .int r5)] 29 rfl (by decide) rfl ?_
    refine S.aload_n 30 1 rfl rfl ?_
    refine S.getR 31 rfl fo_X5_38 rfl rfl rfl ?_
    refine S.iload_n 32 2 rfl rfl ?_
    refine S.iconst (0 : Int32) 33 rfl (by decide) ?_
    refine S.iast 34 rfl rfl (fun I8 => ?_)
    refine S.iconst (0 : Int32) 35 rfl (by decide) ?_
    refine S.istore [(5, .int (0 : Int32)), (4, .int y6), (0, .ref 52), (1, .int l1), (2, .int r4), (3, .int r5)] 36 rfl (by decide) rfl ?_
    refine S.sub (lv' := [(0, .ref 52), (1, .int l1), (2, .int r4), (3, .int r5), (4, .int y6), (5, .int (0 : Int32))]) [2, 3, 4, 5, 1, 0] rfl ?_
    refine s_X5_partCells_L53 _ _ _ _ _ bgf _ _
  · refine S.icmp_ne 40 25 rfl (by decide) (fun _ => ?_) (fun _ => ?_)
    · refine S.iconst (0 : Int32) 28 rfl (by decide) ?_
      refine S.sub (lv' := [(0, .ref 52), (1, .int l1), (2, .int r4), (3, .int r5)]) [2, 3, 1, 0] rfl ?_
      exact hj7 _
    · refine S.iconst (1 : Int32) 26 rfl (by decide) ?_
      refine S.goto 41 27 rfl (by decide) ?_
      refine S.sub (lv' := [(0, .ref 52), (1, .int l1), (2, .int r4), (3, .int r5)]) [2, 3, 1, 0] rfl ?_
      exact hj7 _
def F_X5_depthAt (l1 : Int32) (l2 : Int32) (I : HI) (J : HJ) : Option Int32 :=
  cp (F_X5_place l1 l2) fun r1 =>
  bx r1 29696 <|
  cp (F_X5_place l1 (I p_cells (Int32.toNatClampNeg r1))) fun r2 =>
  bx r2 29696 <|
  some (I p_depths (Int32.toNatClampNeg r2))
set_option maxRecDepth 100000 in
theorem cm_X5_depthAt (l1 : Int32) (l2 : Int32) (I : HI) (J : HJ) : CM mX5_depthAt 2 0 0 [.ref 52, .int l1, .int l2] (zs true, I, J) (pI (zs true, I, J)) (F_X5_depthAt l1 l2 I J) := by
  refine S.of okX5_depthAt pn_X5 (Nat.le_of_ble_eq_true rfl) ?_
  refine S.sub (lv' := [(0, .ref 52), (1, .int l1), (2, .int l2)]) [0, 1, 2] rfl ?_
  unfold F_X5_depthAt
  refine S.aload_n 0 0 rfl rfl ?_
  refine S.getR 1 rfl fo_X5_44 rfl rfl rfl ?_
  refine S.iload_n 2 1 rfl rfl ?_
  refine S.aload_n 3 0 rfl rfl ?_
  refine S.getR 4 rfl fo_X5_41 rfl rfl rfl ?_
  refine S.iload_n 5 1 rfl rfl ?_
  refine S.iload_n 6 2 rfl rfl ?_
  refine S.qSI (d := 1) (av := [.int l1, .int l2]) (rs := [.int l2, .int l1]) 7 rfl co_X5_63 rfl rfl ⟨⟨Nat.le_of_ble_eq_true rfl, Nat.le_of_ble_eq_true rfl⟩, ⟨Nat.le_of_ble_eq_true rfl, Nat.le_of_ble_eq_true rfl⟩, Nat.le_of_ble_eq_true rfl⟩ (cm_X5_place (zs true, I, J) l1 l2) (fun r1 => ?_)
  refine S.iald 8 rfl rfl ?_
  refine S.qSI (d := 1) (av := [.int l1, .int (I p_cells (Int32.toNatClampNeg r1))]) (rs := [.int (I p_cells (Int32.toNatClampNeg r1)), .int l1]) 9 rfl co_X5_63 rfl rfl ⟨⟨Nat.le_of_ble_eq_true rfl, Nat.le_of_ble_eq_true rfl⟩, ⟨Nat.le_of_ble_eq_true rfl, Nat.le_of_ble_eq_true rfl⟩, Nat.le_of_ble_eq_true rfl⟩ (cm_X5_place (zs true, I, J) l1 (I p_cells (Int32.toNatClampNeg r1))) (fun r2 => ?_)
  refine S.iald 10 rfl rfl ?_
  exact S.iret 11 rfl rfl rfl (Nat.le_refl _) (Nat.le_refl _) rfl
def F_X5_tryTest_L10 (l1 : Int32) (l2 : Int32) (J : HJ) (kx57 : HI → Option (Unit × HI × HJ)) : Nat → Int32 → HI → Option (Unit × HI × HJ)
  | 0, _, _ => none
  | K+1, l3, I =>
    if (I x_plan f_Plan_groups) ≤ l3 then
      kx57 I
    else
      bx (l1 + l3) 29696 <|
      lb ((I p_cells (Int32.toNatClampNeg (l1 + l3)))) fun x6 =>
      bx x6 116 <|
      cp (F_X5_depthAt l2 l3 I J) fun r7 =>
      bx x6 116 <|
      lb (ui I x_plan_worst (Int32.toNatClampNeg x6) (omax (I x_plan_worst (Int32.toNatClampNeg x6)) r7)) fun I8 =>
      F_X5_tryTest_L10 l1 l2 J kx57 K (l3 + 1) I8
set_option maxRecDepth 100000 in
theorem s_X5_tryTest_L10 (l1 : Int32) (l2 : Int32) (J : HJ) (kx57 : HI → Option (Unit × HI × HJ)) (hkx57 : ∀ (I1 : HI), S (fV (zs true)) mX5_tryTest (rmd 3 0 0) 0 0 (0, 0) 57 [(0, .ref 52), (1, .int l1)] [] (zs true, I1, J) (kx57 I1)) : ∀ (K : Nat) (l3 : Int32) (I : HI), S (fV (zs true)) mX5_tryTest (rmd 3 0 0) 0 0 (0, 0) 10 [(0, .ref 52), (1, .int l1), (2, .int l2), (3, .int l3)] [] (zs true, I, J) (F_X5_tryTest_L10 l1 l2 J kx57 K l3 I) := by
  intro K
  induction K with
  | zero => intro l3 I; exact S.none
  | succ K ih =>
    intro l3 I
    rw [F_X5_tryTest_L10]
    refine S.iload_n 6 3 rfl rfl ?_
    refine S.aload_n 7 0 rfl rfl ?_
    refine S.getI 8 rfl fo_X5_25 rfl rfl ?_
    refine S.icmp_ge 57 9 rfl (by decide) (fun _ => ?_) (fun _ => ?_)
    · refine S.sub (lv' := [(0, .ref 52), (1, .int l1)]) [0, 1] rfl ?_
      exact hkx57 _
    · refine S.aload_n 10 0 rfl rfl ?_
      refine S.getR 11 rfl fo_X5_41 rfl rfl rfl ?_
      refine S.iload_n 12 1 rfl rfl ?_
      refine S.iload_n 13 3 rfl rfl ?_
      refine S.iadd 14 rfl ?_
      refine S.iald 15 rfl rfl ?_
      refine S.nmi (fun x6 => ?_)
      refine S.istore [(4, .int x6), (0, .ref 52), (1, .int l1), (2, .int l2), (3, .int l3)] 16 rfl (by decide) rfl ?_
      refine S.aload_n 17 1 rfl rfl ?_
      refine S.getR 18 rfl fo_X5_35 rfl rfl rfl ?_
      refine S.iload 19 0 rfl rfl ?_
      refine S.aload_n 20 1 rfl rfl ?_
      refine S.getR 21 rfl fo_X5_35 rfl rfl rfl ?_
      refine S.iload 22 0 rfl rfl ?_
      refine S.iald 23 rfl rfl ?_
      refine S.aload_n 24 1 rfl rfl ?_
      refine S.iload_n 25 3 rfl rfl ?_
      refine S.iload_n 26 4 rfl rfl ?_
      refine S.qVI (d := 2) (av := [.int l2, .int l3]) (rs := [.int l3, .int l2]) (b := 52) 27 rfl co_X5_101 rfl rfl rfl rfl rfl ⟨⟨Nat.le_of_ble_eq_true rfl, Nat.le_of_ble_eq_true rfl⟩, ⟨Nat.le_of_ble_eq_true rfl, Nat.le_of_ble_eq_true rfl⟩, Nat.le_of_ble_eq_true rfl⟩ (cm_X5_depthAt l2 l3 I J) (fun r7 => ?_)
      refine S.mmax 28 rfl co_X5_104 ⟨Nat.le_of_ble_eq_true rfl, Nat.le_of_ble_eq_true rfl, Nat.le_of_ble_eq_true rfl, Nat.le_of_ble_eq_true rfl, Nat.le_of_ble_eq_true rfl⟩ ?_
      refine S.iast 29 rfl rfl (fun I8 => ?_)
      refine S.iinc (l3 + 1) [(3, .int (l3 + 1)), (4, .int x6), (0, .ref 52), (1, .int l1), (2, .int l2)] 30 4 rfl rfl rfl (by decide) rfl ?_
      refine S.goto 10 31 rfl (by decide) ?_
      refine S.sub (lv' := [(0, .ref 52), (1, .int l1), (2, .int l2), (3, .int (l3 + 1))]) [2, 3, 4, 0] rfl ?_
      exact ih _ _
def F_X5_tryTest_L59 (l1 : Int32) (J : HJ) : Nat → Int32 → HI → Option (Unit × HI × HJ)
  | 0, _, _ => none
  | K+1, l3, I =>
    if (I x_plan f_Plan_groups) ≤ l3 then
      some ((), I, J)
    else
      bx l3 116 <|
      lb (fun (I10 : HI) =>
      F_X5_tryTest_L59 l1 J K (l3 + 1) I10) fun j11 =>
      if (I x_plan_sizes (Int32.toNatClampNeg l3)) ≤ (1 : Int32) then
        j11 I
      else
        bx (l1 + l3) 29696 <|
        bx l3 116 <|
        bx (l1 + l3) 29696 <|
        lb (ui I p_depths (Int32.toNatClampNeg (l1 + l3)) (omin (I p_depths (Int32.toNatClampNeg (l1 + l3))) ((1 : Int32) + (I x_plan_worst (Int32.toNatClampNeg l3))))) fun I12 =>
        j11 I12
set_option maxRecDepth 100000 in
theorem s_X5_tryTest_L59 (l1 : Int32) (J : HJ) : ∀ (K : Nat) (l3 : Int32) (I : HI), S (fV (zs true)) mX5_tryTest (rmd 3 0 0) 0 0 (0, 0) 59 [(0, .ref 52), (1, .int l1), (3, .int l3)] [] (zs true, I, J) (F_X5_tryTest_L59 l1 J K l3 I) := by
  intro K
  induction K with
  | zero => intro l3 I; exact S.none
  | succ K ih =>
    intro l3 I
    rw [F_X5_tryTest_L59]
    refine S.iload_n 34 2 rfl rfl ?_
    refine S.aload_n 35 0 rfl rfl ?_
    refine S.getI 36 rfl fo_X5_25 rfl rfl ?_
    refine S.icmp_ge 110 37 rfl (by decide) (fun _ => ?_) (fun _ => ?_)
    · exact S.vret 65 rfl rfl (Nat.le_refl _) (Nat.le_refl _) rfl
    · refine S.aload_n 38 0 rfl rfl ?_
      refine S.getR 39 rfl fo_X5_32 rfl rfl rfl ?_
      refine S.iload_n 40 2 rfl rfl ?_
      refine S.iald 41 rfl rfl ?_
      refine S.iconst (1 : Int32) 42 rfl (by decide) ?_
      refine S.jn (fun j => ∀ (I10 : HI), S (fV (zs true)) mX5_tryTest (rmd 3 0 0) 0 0 (0, 0) 104 [(0, .ref 52), (1, .int l1), (3, .int l3)] [] (zs true, I10, J) (j I10)) (fun I10 => ?_) (fun j11 hj11 => ?_)
      · refine S.iinc (l3 + 1) [(3, .int (l3 + 1)), (0, .ref 52), (1, .int l1)] 63 2 rfl rfl rfl (by decide) rfl ?_
        refine S.goto 59 64 rfl (by decide) ?_
        refine S.sub (lv' := [(0, .ref 52), (1, .int l1), (3, .int (l3 + 1))]) [1, 2, 0] rfl ?_
        exact ih _ _
      · refine S.icmp_le 104 43 rfl (by decide) (fun _ => ?_) (fun _ => ?_)
        · exact hj11 _
        · refine S.aload_n 44 0 rfl rfl ?_
          refine S.getR 45 rfl fo_X5_44 rfl rfl rfl ?_
          refine S.iload_n 46 1 rfl rfl ?_
          refine S.iload_n 47 2 rfl rfl ?_
          refine S.iadd 48 rfl ?_
          refine S.aload_n 49 0 rfl rfl ?_
          refine S.getR 50 rfl fo_X5_44 rfl rfl rfl ?_
          refine S.iload_n 51 1 rfl rfl ?_
          refine S.iload_n 52 2 rfl rfl ?_
          refine S.iadd 53 rfl ?_
          refine S.iald 54 rfl rfl ?_
          refine S.iconst (1 : Int32) 55 rfl (by decide) ?_
          refine S.aload_n 56 0 rfl rfl ?_
          refine S.getR 57 rfl fo_X5_35 rfl rfl rfl ?_
          refine S.iload_n 58 2 rfl rfl ?_
          refine S.iald 59 rfl rfl ?_
          refine S.iadd 60 rfl ?_
          refine S.mmin 61 rfl co_X5_109 ⟨Nat.le_of_ble_eq_true rfl, Nat.le_of_ble_eq_true rfl, Nat.le_of_ble_eq_true rfl, Nat.le_of_ble_eq_true rfl, Nat.le_of_ble_eq_true rfl⟩ ?_
          refine S.iast 62 rfl rfl (fun I12 => ?_)
          exact hj11 _
def F_X5_tryTest (l1 : Int32) (l2 : Int32) (I : HI) (J : HJ) : Option (Unit × HI × HJ) :=
  cl (F_J7_fill_53178_58 (0 : Int32) I J) fun _ I4 J5 =>
  F_X5_tryTest_L10 l1 l2 J5 (fun (I9 : HI) =>
  F_X5_tryTest_L59 l1 J5 bgf (0 : Int32) I9) bgf (0 : Int32) I4
set_option maxRecDepth 100000 in
theorem cm_X5_tryTest (l1 : Int32) (l2 : Int32) (I : HI) (J : HJ) : CM mX5_tryTest 3 0 0 [.ref 52, .int l1, .int l2] (zs true, I, J) (fV (zs true)) (F_X5_tryTest l1 l2 I J) := by
  refine S.of okX5_tryTest pn_X5 (Nat.le_of_ble_eq_true rfl) ?_
  refine S.sub (lv' := [(0, .ref 52), (1, .int l1), (2, .int l2)]) [0, 1, 2] rfl ?_
  unfold F_X5_tryTest
  refine S.aload_n 0 0 rfl rfl ?_
  refine S.getR 1 rfl fo_X5_35 rfl rfl rfl ?_
  refine S.iconst (0 : Int32) 2 rfl (by decide) ?_
  refine S.cSV (d := 1) (av := [.ref 58, .int (0 : Int32)]) (rs := [.int (0 : Int32), .ref 58]) 3 rfl co_X5_91 rfl rfl ⟨⟨Nat.le_of_ble_eq_true rfl, Nat.le_of_ble_eq_true rfl⟩, ⟨Nat.le_of_ble_eq_true rfl, Nat.le_of_ble_eq_true rfl⟩, Nat.le_of_ble_eq_true rfl⟩ (cm_J7_fill_53178_58 true (0 : Int32) I J) (fun _ I4 J5 => ?_)
  refine S.iconst (0 : Int32) 4 rfl (by decide) ?_
  refine S.istore_n [(3, .int (0 : Int32)), (0, .ref 52), (1, .int l1), (2, .int l2)] 5 rfl (by decide) rfl ?_
  refine S.sub (lv' := [(0, .ref 52), (1, .int l1), (2, .int l2), (3, .int (0 : Int32))]) [1, 2, 3, 0] rfl ?_
  refine s_X5_tryTest_L10 _ _ _ _ (fun I9 => ?_) bgf _ _
  refine S.iconst (0 : Int32) 32 rfl (by decide) ?_
  refine S.istore_n [(3, .int (0 : Int32)), (0, .ref 52), (1, .int l1)] 33 rfl (by decide) rfl ?_
  refine S.sub (lv' := [(0, .ref 52), (1, .int l1), (3, .int (0 : Int32))]) [1, 2, 0] rfl ?_
  refine s_X5_tryTest_L59 _ _ bgf _ _
def F_X5_reckonDepths_L16 (l1 : Int32) (l2 : Int32) (J : HJ) (kx47 : HI → Option (Unit × HI × HJ)) : Nat → Int32 → HI → Option (Unit × HI × HJ)
  | 0, _, _ => none
  | K+1, l3, I =>
    if (I x_plan f_Plan_groups) ≤ l3 then
      kx47 I
    else
      bx (l2 + l3) 29696 <|
      bx (I p_cells (Int32.toNatClampNeg (l2 + l3))) 116 <|
      bx (I p_cells (Int32.toNatClampNeg (l2 + l3))) 116 <|
      lb (ui I x_plan_sizes (Int32.toNatClampNeg (I p_cells (Int32.toNatClampNeg (l2 + l3)))) ((I x_plan_sizes (Int32.toNatClampNeg (I p_cells (Int32.toNatClampNeg (l2 + l3))))) + (1 : Int32))) fun I6 =>
      F_X5_reckonDepths_L16 l1 l2 J kx47 K (l3 + 1) I6
set_option maxRecDepth 100000 in
theorem s_X5_reckonDepths_L16 (l1 : Int32) (l2 : Int32) (J : HJ) (kx47 : HI → Option (Unit × HI × HJ)) (hkx47 : ∀ (I1 : HI), S (fV (zs true)) mX5_reckonDepths (rmd 4 0 0) 0 0 (0, 0) 47 [(0, .ref 52), (1, .int l1), (2, .int l2)] [] (zs true, I1, J) (kx47 I1)) : ∀ (K : Nat) (l3 : Int32) (I : HI), S (fV (zs true)) mX5_reckonDepths (rmd 4 0 0) 0 0 (0, 0) 16 [(0, .ref 52), (1, .int l1), (2, .int l2), (3, .int l3)] [] (zs true, I, J) (F_X5_reckonDepths_L16 l1 l2 J kx47 K l3 I) := by
  intro K
  induction K with
  | zero => intro l3 I; exact S.none
  | succ K ih =>
    intro l3 I
    rw [F_X5_reckonDepths_L16]
    refine S.iload_n 10 3 rfl rfl ?_
    refine S.aload_n 11 0 rfl rfl ?_
    refine S.getI 12 rfl fo_X5_25 rfl rfl ?_
    refine S.icmp_ge 47 13 rfl (by decide) (fun _ => ?_) (fun _ => ?_)
    · refine S.sub (lv' := [(0, .ref 52), (1, .int l1), (2, .int l2)]) [0, 1, 2] rfl ?_
      exact hkx47 _
    · refine S.aload_n 14 0 rfl rfl ?_
      refine S.getR 15 rfl fo_X5_32 rfl rfl rfl ?_
      refine S.aload_n 16 0 rfl rfl ?_
      refine S.getR 17 rfl fo_X5_41 rfl rfl rfl ?_
      refine S.iload_n 18 2 rfl rfl ?_
      refine S.iload_n 19 3 rfl rfl ?_
      refine S.iadd 20 rfl ?_
      refine S.iald 21 rfl rfl ?_
      refine S.dup2_11 22 rfl rfl rfl ?_
      refine S.iald 23 rfl rfl ?_
      refine S.iconst (1 : Int32) 24 rfl (by decide) ?_
      refine S.iadd 25 rfl ?_
      refine S.iast 26 rfl rfl (fun I6 => ?_)
      refine S.iinc (l3 + 1) [(3, .int (l3 + 1)), (0, .ref 52), (1, .int l1), (2, .int l2)] 27 3 rfl rfl rfl (by decide) rfl ?_
      refine S.goto 16 28 rfl (by decide) ?_
      refine S.sub (lv' := [(0, .ref 52), (1, .int l1), (2, .int l2), (3, .int (l3 + 1))]) [1, 2, 3, 0] rfl ?_
      exact ih _ _
def F_X5_reckonDepths_L49 (l1 : Int32) (l2 : Int32) (J : HJ) (kx87 : HI → Option (Unit × HI × HJ)) : Nat → Int32 → HI → Option (Unit × HI × HJ)
  | 0, _, _ => none
  | K+1, l3, I =>
    if (I x_plan f_Plan_groups) ≤ l3 then
      kx87 I
    else
      bx l3 116 <|
      lb (fun (y8 : Int32) (y9 : Int32) =>
      bx y8 29696 <|
      lb (ui I p_depths (Int32.toNatClampNeg y8) y9) fun I11 =>
      F_X5_reckonDepths_L49 l1 l2 J kx87 K (l3 + 1) I11) fun j10 =>
      if (I x_plan_sizes (Int32.toNatClampNeg l3)) ≤ (1 : Int32) then
        j10 (l2 + l3) (0 : Int32)
      else
        j10 (l2 + l3) (8 : Int32)
set_option maxRecDepth 100000 in
theorem s_X5_reckonDepths_L49 (l1 : Int32) (l2 : Int32) (J : HJ) (kx87 : HI → Option (Unit × HI × HJ)) (hkx87 : ∀ (I1 : HI), S (fV (zs true)) mX5_reckonDepths (rmd 4 0 0) 0 0 (0, 0) 87 [(0, .ref 52), (1, .int l1), (2, .int l2)] [] (zs true, I1, J) (kx87 I1)) : ∀ (K : Nat) (l3 : Int32) (I : HI), S (fV (zs true)) mX5_reckonDepths (rmd 4 0 0) 0 0 (0, 0) 49 [(0, .ref 52), (1, .int l1), (2, .int l2), (3, .int l3)] [] (zs true, I, J) (F_X5_reckonDepths_L49 l1 l2 J kx87 K l3 I) := by
  intro K
  induction K with
  | zero => intro l3 I; exact S.none
  | succ K ih =>
    intro l3 I
    rw [F_X5_reckonDepths_L49]
    refine S.iload_n 31 3 rfl rfl ?_
    refine S.aload_n 32 0 rfl rfl ?_
    refine S.getI 33 rfl fo_X5_25 rfl rfl ?_
    refine S.icmp_ge 87 34 rfl (by decide) (fun _ => ?_) (fun _ => ?_)
    · refine S.sub (lv' := [(0, .ref 52), (1, .int l1), (2, .int l2)]) [0, 1, 2] rfl ?_
      exact hkx87 _
    · refine S.aload_n 35 0 rfl rfl ?_
      refine S.getR 36 rfl fo_X5_44 rfl rfl rfl ?_
      refine S.iload_n 37 2 rfl rfl ?_
      refine S.iload_n 38 3 rfl rfl ?_
      refine S.iadd 39 rfl ?_
      refine S.aload_n 40 0 rfl rfl ?_
      refine S.getR 41 rfl fo_X5_32 rfl rfl rfl ?_
      refine S.iload_n 42 3 rfl rfl ?_
      refine S.iald 43 rfl rfl ?_
      refine S.iconst (1 : Int32) 44 rfl (by decide) ?_
      refine S.jn (fun j => ∀ (y8 : Int32) (y9 : Int32), S (fV (zs true)) mX5_reckonDepths (rmd 4 0 0) 0 0 (0, 0) 80 [(0, .ref 52), (1, .int l1), (2, .int l2), (3, .int l3)] [.int y9, .int y8, .ref 130] (zs true, I, J) (j y8 y9)) (fun y8 y9 => ?_) (fun j10 hj10 => ?_)
      · refine S.iast 49 rfl rfl (fun I11 => ?_)
        refine S.iinc (l3 + 1) [(3, .int (l3 + 1)), (0, .ref 52), (1, .int l1), (2, .int l2)] 50 3 rfl rfl rfl (by decide) rfl ?_
        refine S.goto 49 51 rfl (by decide) ?_
        refine S.sub (lv' := [(0, .ref 52), (1, .int l1), (2, .int l2), (3, .int (l3 + 1))]) [1, 2, 3, 0] rfl ?_
        exact ih _ _
      · refine S.icmp_le 79 45 rfl (by decide) (fun _ => ?_) (fun _ => ?_)
        · refine S.iconst (0 : Int32) 48 rfl (by decide) ?_
          exact hj10 _ _
        · refine S.bipush (8 : Int32) 46 rfl (by decide) ?_
          refine S.goto 80 47 rfl (by decide) ?_
          exact hj10 _ _
def F_X5_reckonDepths_L89 (l1 : Int32) (l2 : Int32) : Nat → Int32 → HI → HJ → Option (Unit × HI × HJ)
  | 0, _, _, _ => none
  | K+1, l3, I, J =>
    if (I x_plan f_Plan_tests) ≤ l3 then
      some ((), I, J)
    else
      bx l1 256 <|
      if (I x_plan f_Plan_groups) ≤ (I x_plan_parts (Int32.toNatClampNeg l1)) then
        some ((), I, J)
      else
        lb (fun (I13 : HI) (J14 : HJ) =>
        F_X5_reckonDepths_L89 l1 l2 K (l3 + 1) I13 J14) fun j15 =>
        if ((oushr l1 l3) &&& (1 : Int32)) = 0 then
          cl (F_X5_tryTest l2 (l1 ||| (oshl (1 : Int32) l3)) I J) fun _ I16 J17 =>
          j15 I16 J17
        else
          j15 I J
set_option maxRecDepth 100000 in
theorem s_X5_reckonDepths_L89 (l1 : Int32) (l2 : Int32) : ∀ (K : Nat) (l3 : Int32) (I : HI) (J : HJ), S (fV (zs true)) mX5_reckonDepths (rmd 4 0 0) 0 0 (0, 0) 89 [(0, .ref 52), (1, .int l1), (2, .int l2), (3, .int l3)] [] (zs true, I, J) (F_X5_reckonDepths_L89 l1 l2 K l3 I J) := by
  intro K
  induction K with
  | zero => intro l3 I J; exact S.none
  | succ K ih =>
    intro l3 I J
    rw [F_X5_reckonDepths_L89]
    refine S.iload_n 54 3 rfl rfl ?_
    refine S.aload_n 55 0 rfl rfl ?_
    refine S.getI 56 rfl fo_X5_18 rfl rfl ?_
    refine S.icmp_ge 134 57 rfl (by decide) (fun _ => ?_) (fun _ => ?_)
    · exact S.vret 81 rfl rfl (Nat.le_refl _) (Nat.le_refl _) rfl
    · refine S.aload_n 58 0 rfl rfl ?_
      refine S.getR 59 rfl fo_X5_38 rfl rfl rfl ?_
      refine S.iload_n 60 1 rfl rfl ?_
      refine S.iald 61 rfl rfl ?_
      refine S.aload_n 62 0 rfl rfl ?_
      refine S.getI 63 rfl fo_X5_25 rfl rfl ?_
      refine S.icmp_ge 134 64 rfl (by decide) (fun _ => ?_) (fun _ => ?_)
      · exact S.vret 81 rfl rfl (Nat.le_refl _) (Nat.le_refl _) rfl
      · refine S.iload_n 65 1 rfl rfl ?_
        refine S.iload_n 66 3 rfl rfl ?_
        refine S.iushr 67 rfl ?_
        refine S.iconst (1 : Int32) 68 rfl (by decide) ?_
        refine S.iand 69 rfl ?_
        refine S.jn (fun j => ∀ (I13 : HI) (J14 : HJ), S (fV (zs true)) mX5_reckonDepths (rmd 4 0 0) 0 0 (0, 0) 128 [(0, .ref 52), (1, .int l1), (2, .int l2), (3, .int l3)] [] (zs true, I13, J14) (j I13 J14)) (fun I13 J14 => ?_) (fun j15 hj15 => ?_)
        · refine S.iinc (l3 + 1) [(3, .int (l3 + 1)), (0, .ref 52), (1, .int l1), (2, .int l2)] 79 3 rfl rfl rfl (by decide) rfl ?_
          refine S.goto 89 80 rfl (by decide) ?_
          refine S.sub (lv' := [(0, .ref 52), (1, .int l1), (2, .int l2), (3, .int (l3 + 1))]) [1, 2, 3, 0] rfl ?_
          exact ih _ _ _
        · refine S.if_ne 128 70 rfl (by decide) (fun _ => ?_) (fun _ => ?_)
          · exact hj15 _ _
          · refine S.aload_n 71 0 rfl rfl ?_
            refine S.iload_n 72 2 rfl rfl ?_
            refine S.iload_n 73 1 rfl rfl ?_
            refine S.iconst (1 : Int32) 74 rfl (by decide) ?_
            refine S.iload_n 75 3 rfl rfl ?_
            refine S.ishl 76 rfl ?_
            refine S.ior 77 rfl ?_
            refine S.cVV (d := 3) (av := [.int l2, .int (l1 ||| (oshl (1 : Int32) l3))]) (rs := [.int (l1 ||| (oshl (1 : Int32) l3)), .int l2]) (b := 52) 78 rfl co_X5_97 rfl rfl rfl rfl rfl ⟨⟨Nat.le_of_ble_eq_true rfl, Nat.le_of_ble_eq_true rfl⟩, ⟨Nat.le_of_ble_eq_true rfl, Nat.le_of_ble_eq_true rfl⟩, Nat.le_of_ble_eq_true rfl⟩ (cm_X5_tryTest l2 (l1 ||| (oshl (1 : Int32) l3)) I J) (fun _ I16 J17 => ?_)
            exact hj15 _ _
def F_X5_reckonDepths (l1 : Int32) (I : HI) (J : HJ) : Option (Unit × HI × HJ) :=
  cp (F_X5_place l1 (0 : Int32)) fun r3 =>
  cl (F_J7_fill_53178_57 (0 : Int32) I J) fun _ I4 J5 =>
  F_X5_reckonDepths_L16 l1 r3 J5 (fun (I7 : HI) =>
  F_X5_reckonDepths_L49 l1 r3 J5 (fun (I12 : HI) =>
  F_X5_reckonDepths_L89 l1 r3 bgf (0 : Int32) I12 J5) bgf (0 : Int32) I7) bgf (0 : Int32) I4
set_option maxRecDepth 100000 in
theorem cm_X5_reckonDepths (l1 : Int32) (I : HI) (J : HJ) : CM mX5_reckonDepths 4 0 0 [.ref 52, .int l1] (zs true, I, J) (fV (zs true)) (F_X5_reckonDepths l1 I J) := by
  refine S.of okX5_reckonDepths pn_X5 (Nat.le_of_ble_eq_true rfl) ?_
  refine S.sub (lv' := [(0, .ref 52), (1, .int l1)]) [0, 1] rfl ?_
  unfold F_X5_reckonDepths
  refine S.iload_n 0 1 rfl rfl ?_
  refine S.iconst (0 : Int32) 1 rfl (by decide) ?_
  refine S.qSI (d := 1) (av := [.int l1, .int (0 : Int32)]) (rs := [.int (0 : Int32), .int l1]) 2 rfl co_X5_63 rfl rfl ⟨⟨Nat.le_of_ble_eq_true rfl, Nat.le_of_ble_eq_true rfl⟩, ⟨Nat.le_of_ble_eq_true rfl, Nat.le_of_ble_eq_true rfl⟩, Nat.le_of_ble_eq_true rfl⟩ (cm_X5_place (zs true, I, J) l1 (0 : Int32)) (fun r3 => ?_)
  refine S.istore_n [(2, .int r3), (0, .ref 52), (1, .int l1)] 3 rfl (by decide) rfl ?_
  refine S.aload_n 4 1 rfl rfl ?_
  refine S.getR 5 rfl fo_X5_32 rfl rfl rfl ?_
  refine S.iconst (0 : Int32) 6 rfl (by decide) ?_
  refine S.cSV (d := 1) (av := [.ref 57, .int (0 : Int32)]) (rs := [.int (0 : Int32), .ref 57]) 7 rfl co_X5_91 rfl rfl ⟨⟨Nat.le_of_ble_eq_true rfl, Nat.le_of_ble_eq_true rfl⟩, ⟨Nat.le_of_ble_eq_true rfl, Nat.le_of_ble_eq_true rfl⟩, Nat.le_of_ble_eq_true rfl⟩ (cm_J7_fill_53178_57 true (0 : Int32) I J) (fun _ I4 J5 => ?_)
  refine S.iconst (0 : Int32) 8 rfl (by decide) ?_
  refine S.istore_n [(3, .int (0 : Int32)), (2, .int r3), (0, .ref 52), (1, .int l1)] 9 rfl (by decide) rfl ?_
  refine S.sub (lv' := [(0, .ref 52), (1, .int l1), (2, .int r3), (3, .int (0 : Int32))]) [2, 3, 1, 0] rfl ?_
  refine s_X5_reckonDepths_L16 _ _ _ _ (fun I7 => ?_) bgf _ _
  refine S.iconst (0 : Int32) 29 rfl (by decide) ?_
  refine S.istore_n [(3, .int (0 : Int32)), (0, .ref 52), (1, .int l1), (2, .int r3)] 30 rfl (by decide) rfl ?_
  refine S.sub (lv' := [(0, .ref 52), (1, .int l1), (2, .int r3), (3, .int (0 : Int32))]) [1, 2, 3, 0] rfl ?_
  refine s_X5_reckonDepths_L49 _ _ _ _ (fun I12 => ?_) bgf _ _
  refine S.iconst (0 : Int32) 52 rfl (by decide) ?_
  refine S.istore_n [(3, .int (0 : Int32)), (0, .ref 52), (1, .int l1), (2, .int r3)] 53 rfl (by decide) rfl ?_
  refine S.sub (lv' := [(0, .ref 52), (1, .int l1), (2, .int r3), (3, .int (0 : Int32))]) [1, 2, 3, 0] rfl ?_
  refine s_X5_reckonDepths_L89 _ _ bgf _ _ _
def F_X5_grow_L33 (kx69 : HI → HJ → Option (Unit × HI × HJ)) : Nat → Int32 → HI → HJ → Option (Unit × HI × HJ)
  | 0, _, _, _ => none
  | K+1, l1, I, J =>
    if (I x_suspects f_Suspects_agreeing) ≤ l1 then
      kx69 I J
    else
      bx l1 116 <|
      cl (F_X5_findGroup (I x_suspects_agrees (Int32.toNatClampNeg l1)) I J) fun r9 I10 J11 =>
      bx l1 116 <|
      lb (ui I10 x_plan_groupOf (Int32.toNatClampNeg l1) r9) fun I12 =>
      F_X5_grow_L33 kx69 K (l1 + 1) I12 J11
set_option maxRecDepth 100000 in
theorem s_X5_grow_L33 (kx69 : HI → HJ → Option (Unit × HI × HJ)) (hkx69 : ∀ (I1 : HI) (J1 : HJ), S (fV (zs true)) mX5_grow (rmd 26 0 0) 0 0 (0, 0) 69 [(0, .ref 52)] [] (zs true, I1, J1) (kx69 I1 J1)) : ∀ (K : Nat) (l1 : Int32) (I : HI) (J : HJ), S (fV (zs true)) mX5_grow (rmd 26 0 0) 0 0 (0, 0) 33 [(0, .ref 52), (1, .int l1)] [] (zs true, I, J) (F_X5_grow_L33 kx69 K l1 I J) := by
  intro K
  induction K with
  | zero => intro l1 I J; exact S.none
  | succ K ih =>
    intro l1 I J
    rw [F_X5_grow_L33]
    refine S.iload_n 17 1 rfl rfl ?_
    refine S.aload_n 18 0 rfl rfl ?_
    refine S.getR 19 rfl fo_X5_47 rfl rfl rfl ?_
    refine S.getI 20 rfl fo_X5_51 rfl rfl ?_
    refine S.icmp_ge 69 21 rfl (by decide) (fun _ => ?_) (fun _ => ?_)
    · refine S.sub (lv' := [(0, .ref 52)]) [0] rfl ?_
      exact hkx69 _ _
    · refine S.aload_n 22 0 rfl rfl ?_
      refine S.getR 23 rfl fo_X5_22 rfl rfl rfl ?_
      refine S.iload_n 24 1 rfl rfl ?_
      refine S.aload_n 25 0 rfl rfl ?_
      refine S.aload_n 26 0 rfl rfl ?_
      refine S.getR 27 rfl fo_X5_47 rfl rfl rfl ?_
      refine S.getR 28 rfl fo_X5_56 rfl rfl rfl ?_
      refine S.iload_n 29 1 rfl rfl ?_
      refine S.iald 30 rfl rfl ?_
      refine S.cVI (d := 25) (av := [.int (I x_suspects_agrees (Int32.toNatClampNeg l1))]) (rs := [.int (I x_suspects_agrees (Int32.toNatClampNeg l1))]) (b := 52) 31 rfl co_X5_59 rfl rfl rfl rfl rfl ⟨⟨Nat.le_of_ble_eq_true rfl, Nat.le_of_ble_eq_true rfl⟩, ⟨Nat.le_of_ble_eq_true rfl, Nat.le_of_ble_eq_true rfl⟩, Nat.le_of_ble_eq_true rfl⟩ (cm_X5_findGroup true (I x_suspects_agrees (Int32.toNatClampNeg l1)) I J) (fun r9 I10 J11 => ?_)
      refine S.iast 32 rfl rfl (fun I12 => ?_)
      refine S.iinc (l1 + 1) [(1, .int (l1 + 1)), (0, .ref 52)] 33 1 rfl rfl rfl (by decide) rfl ?_
      refine S.goto 33 34 rfl (by decide) ?_
      refine S.sub (lv' := [(0, .ref 52), (1, .int (l1 + 1))]) [1, 0] rfl ?_
      exact ih _ _ _
def F_X5_grow_L78 (J : HJ) (kx103 : HI → Option (Unit × HI × HJ)) : Nat → Int32 → HI → Option (Unit × HI × HJ)
  | 0, _, _ => none
  | K+1, l1, I =>
    if (I x_plan f_Plan_groups) ≤ l1 then
      kx103 I
    else
      cp (F_X5_place (0 : Int32) l1) fun r16 =>
      bx r16 29696 <|
      lb (ui I p_cells (Int32.toNatClampNeg r16) (0 : Int32)) fun I17 =>
      F_X5_grow_L78 J kx103 K (l1 + 1) I17
set_option maxRecDepth 100000 in
theorem s_X5_grow_L78 (J : HJ) (kx103 : HI → Option (Unit × HI × HJ)) (hkx103 : ∀ (I1 : HI), S (fV (zs true)) mX5_grow (rmd 26 0 0) 0 0 (0, 0) 103 [(0, .ref 52)] [] (zs true, I1, J) (kx103 I1)) : ∀ (K : Nat) (l1 : Int32) (I : HI), S (fV (zs true)) mX5_grow (rmd 26 0 0) 0 0 (0, 0) 78 [(0, .ref 52), (1, .int l1)] [] (zs true, I, J) (F_X5_grow_L78 J kx103 K l1 I) := by
  intro K
  induction K with
  | zero => intro l1 I; exact S.none
  | succ K ih =>
    intro l1 I
    rw [F_X5_grow_L78]
    refine S.iload_n 42 1 rfl rfl ?_
    refine S.aload_n 43 0 rfl rfl ?_
    refine S.getI 44 rfl fo_X5_25 rfl rfl ?_
    refine S.icmp_ge 103 45 rfl (by decide) (fun _ => ?_) (fun _ => ?_)
    · refine S.sub (lv' := [(0, .ref 52)]) [0] rfl ?_
      exact hkx103 _
    · refine S.aload_n 46 0 rfl rfl ?_
      refine S.getR 47 rfl fo_X5_41 rfl rfl rfl ?_
      refine S.iconst (0 : Int32) 48 rfl (by decide) ?_
      refine S.iload_n 49 1 rfl rfl ?_
      refine S.qSI (d := 1) (av := [.int (0 : Int32), .int l1]) (rs := [.int l1, .int (0 : Int32)]) 50 rfl co_X5_63 rfl rfl ⟨⟨Nat.le_of_ble_eq_true rfl, Nat.le_of_ble_eq_true rfl⟩, ⟨Nat.le_of_ble_eq_true rfl, Nat.le_of_ble_eq_true rfl⟩, Nat.le_of_ble_eq_true rfl⟩ (cm_X5_place (zs true, I, J) (0 : Int32) l1) (fun r16 => ?_)
      refine S.iconst (0 : Int32) 51 rfl (by decide) ?_
      refine S.iast 52 rfl rfl (fun I17 => ?_)
      refine S.iinc (l1 + 1) [(1, .int (l1 + 1)), (0, .ref 52)] 53 1 rfl rfl rfl (by decide) rfl ?_
      refine S.goto 78 54 rfl (by decide) ?_
      refine S.sub (lv' := [(0, .ref 52), (1, .int (l1 + 1))]) [1, 0] rfl ?_
      exact ih _ _
def F_X5_grow_L105 (kx126 : HI → HJ → Option (Unit × HI × HJ)) : Nat → Int32 → HI → HJ → Option (Unit × HI × HJ)
  | 0, _, _, _ => none
  | K+1, l1, I, J =>
    if (oshl (1 : Int32) (I x_plan f_Plan_tests)) ≤ l1 then
      kx126 I J
    else
      cl (F_X5_partCells l1 I J) fun _ I19 J20 =>
      F_X5_grow_L105 kx126 K (l1 + 1) I19 J20
set_option maxRecDepth 100000 in
theorem s_X5_grow_L105 (kx126 : HI → HJ → Option (Unit × HI × HJ)) (hkx126 : ∀ (I1 : HI) (J1 : HJ), S (fV (zs true)) mX5_grow (rmd 26 0 0) 0 0 (0, 0) 126 [(0, .ref 52)] [] (zs true, I1, J1) (kx126 I1 J1)) : ∀ (K : Nat) (l1 : Int32) (I : HI) (J : HJ), S (fV (zs true)) mX5_grow (rmd 26 0 0) 0 0 (0, 0) 105 [(0, .ref 52), (1, .int l1)] [] (zs true, I, J) (F_X5_grow_L105 kx126 K l1 I J) := by
  intro K
  induction K with
  | zero => intro l1 I J; exact S.none
  | succ K ih =>
    intro l1 I J
    rw [F_X5_grow_L105]
    refine S.iload_n 57 1 rfl rfl ?_
    refine S.iconst (1 : Int32) 58 rfl (by decide) ?_
    refine S.aload_n 59 0 rfl rfl ?_
    refine S.getI 60 rfl fo_X5_18 rfl rfl ?_
    refine S.ishl 61 rfl ?_
    refine S.icmp_ge 126 62 rfl (by decide) (fun _ => ?_) (fun _ => ?_)
    · refine S.sub (lv' := [(0, .ref 52)]) [0] rfl ?_
      exact hkx126 _ _
    · refine S.aload_n 63 0 rfl rfl ?_
      refine S.iload_n 64 1 rfl rfl ?_
      refine S.cVV (d := 2) (av := [.int l1]) (rs := [.int l1]) (b := 52) 65 rfl co_X5_67 rfl rfl rfl rfl rfl ⟨⟨Nat.le_of_ble_eq_true rfl, Nat.le_of_ble_eq_true rfl⟩, ⟨Nat.le_of_ble_eq_true rfl, Nat.le_of_ble_eq_true rfl⟩, Nat.le_of_ble_eq_true rfl⟩ (cm_X5_partCells l1 I J) (fun _ I19 J20 => ?_)
      refine S.iinc (l1 + 1) [(1, .int (l1 + 1)), (0, .ref 52)] 66 1 rfl rfl rfl (by decide) rfl ?_
      refine S.goto 105 67 rfl (by decide) ?_
      refine S.sub (lv' := [(0, .ref 52), (1, .int (l1 + 1))]) [1, 0] rfl ?_
      exact ih _ _ _
def F_X5_grow_L135  : Nat → Int32 → HI → HJ → Option (Unit × HI × HJ)
  | 0, _, _, _ => none
  | K+1, l1, I, J =>
    if l1 < 0 then
      some ((), I, J)
    else
      cl (F_X5_reckonDepths l1 I J) fun _ I24 J25 =>
      F_X5_grow_L135 K (l1 + (-1)) I24 J25
set_option maxRecDepth 100000 in
theorem s_X5_grow_L135  : ∀ (K : Nat) (l1 : Int32) (I : HI) (J : HJ), S (fV (zs true)) mX5_grow (rmd 26 0 0) 0 0 (0, 0) 135 [(0, .ref 52), (1, .int l1)] [] (zs true, I, J) (F_X5_grow_L135 K l1 I J) := by
  intro K
  induction K with
  | zero => intro l1 I J; exact S.none
  | succ K ih =>
    intro l1 I J
    rw [F_X5_grow_L135]
    refine S.iload_n 75 1 rfl rfl ?_
    refine S.if_lt 150 76 rfl (by decide) (fun _ => ?_) (fun _ => ?_)
    · exact S.vret 82 rfl rfl (Nat.le_refl _) (Nat.le_refl _) rfl
    · refine S.aload_n 77 0 rfl rfl ?_
      refine S.iload_n 78 1 rfl rfl ?_
      refine S.cVV (d := 4) (av := [.int l1]) (rs := [.int l1]) (b := 52) 79 rfl co_X5_71 rfl rfl rfl rfl rfl ⟨⟨Nat.le_of_ble_eq_true rfl, Nat.le_of_ble_eq_true rfl⟩, ⟨Nat.le_of_ble_eq_true rfl, Nat.le_of_ble_eq_true rfl⟩, Nat.le_of_ble_eq_true rfl⟩ (cm_X5_reckonDepths l1 I J) (fun _ I24 J25 => ?_)
      refine S.iinc (l1 + (-1)) [(1, .int (l1 + (-1))), (0, .ref 52)] 80 1 rfl rfl rfl (by decide) rfl ?_
      refine S.goto 135 81 rfl (by decide) ?_
      refine S.sub (lv' := [(0, .ref 52), (1, .int (l1 + (-1)))]) [1, 0] rfl ?_
      exact ih _ _ _
def F_X5_grow_C26 (I : HI) (J : HJ) : Option (Unit × HI × HJ) :=
  lb (ui I x_plan f_Plan_groups (0 : Int32)) fun I26 =>
  F_X5_grow_L33 (fun (I27 : HI) (J28 : HJ) =>
  bx (0 : Int32) 256 <|
  lb (ui I27 x_plan_parts (Int32.toNatClampNeg (0 : Int32)) (1 : Int32)) fun I29 =>
  F_X5_grow_L78 J28 (fun (I30 : HI) =>
  F_X5_grow_L105 (fun (I31 : HI) (J32 : HJ) =>
  lb (((oshl (1 : Int32) (I31 x_plan f_Plan_tests)) - (1 : Int32))) fun x33 =>
  F_X5_grow_L135 bgf x33 I31 J32) bgf (1 : Int32) I30 J28) bgf (0 : Int32) I29) bgf (0 : Int32) I26 J
set_option maxRecDepth 100000 in
theorem s_X5_grow_C26 (I : HI) (J : HJ) : S (fV (zs true)) mX5_grow (rmd 26 0 0) 0 0 (0, 0) 26 [(0, .ref 52)] [] (zs true, I, J) (F_X5_grow_C26 I J) := by
  unfold F_X5_grow_C26
  refine S.aload_n 12 0 rfl rfl ?_
  refine S.iconst (0 : Int32) 13 rfl (by decide) ?_
  refine S.putI 14 rfl fo_X5_25 rfl rfl rfl rfl (fun _ hq => by cases hq; exact Or.inl rfl) (fun I26 => ?_)
  refine S.iconst (0 : Int32) 15 rfl (by decide) ?_
  refine S.istore_n [(1, .int (0 : Int32)), (0, .ref 52)] 16 rfl (by decide) rfl ?_
  refine S.sub (lv' := [(0, .ref 52), (1, .int (0 : Int32))]) [1, 0] rfl ?_
  refine s_X5_grow_L33 _ (fun I27 J28 => ?_) bgf _ _ _
  refine S.aload_n 35 0 rfl rfl ?_
  refine S.getR 36 rfl fo_X5_38 rfl rfl rfl ?_
  refine S.iconst (0 : Int32) 37 rfl (by decide) ?_
  refine S.iconst (1 : Int32) 38 rfl (by decide) ?_
  refine S.iast 39 rfl rfl (fun I29 => ?_)
  refine S.iconst (0 : Int32) 40 rfl (by decide) ?_
  refine S.istore_n [(1, .int (0 : Int32)), (0, .ref 52)] 41 rfl (by decide) rfl ?_
  refine S.sub (lv' := [(0, .ref 52), (1, .int (0 : Int32))]) [1, 0] rfl ?_
  refine s_X5_grow_L78 _ _ (fun I30 => ?_) bgf _ _
  refine S.iconst (1 : Int32) 55 rfl (by decide) ?_
  refine S.istore_n [(1, .int (1 : Int32)), (0, .ref 52)] 56 rfl (by decide) rfl ?_
  refine S.sub (lv' := [(0, .ref 52), (1, .int (1 : Int32))]) [1, 0] rfl ?_
  refine s_X5_grow_L105 _ (fun I31 J32 => ?_) bgf _ _ _
  refine S.iconst (1 : Int32) 68 rfl (by decide) ?_
  refine S.aload_n 69 0 rfl rfl ?_
  refine S.getI 70 rfl fo_X5_18 rfl rfl ?_
  refine S.ishl 71 rfl ?_
  refine S.iconst (1 : Int32) 72 rfl (by decide) ?_
  refine S.isub 73 rfl ?_
  refine S.nmi (fun x33 => ?_)
  refine S.istore_n [(1, .int x33), (0, .ref 52)] 74 rfl (by decide) rfl ?_
  refine S.sub (lv' := [(0, .ref 52), (1, .int x33)]) [1, 0] rfl ?_
  refine s_X5_grow_L135 bgf _ _ _
def F_X5_grow  (I : HI) (J : HJ) : Option (Unit × HI × HJ) :=
  lb (fun (I6 : HI) =>
  lb (ui I6 x_plan f_Plan_groups (0 : Int32)) fun I8 =>
  F_X5_grow_L33 (fun (I13 : HI) (J14 : HJ) =>
  bx (0 : Int32) 256 <|
  lb (ui I13 x_plan_parts (Int32.toNatClampNeg (0 : Int32)) (1 : Int32)) fun I15 =>
  F_X5_grow_L78 J14 (fun (I18 : HI) =>
  F_X5_grow_L105 (fun (I21 : HI) (J22 : HJ) =>
  lb (((oshl (1 : Int32) (I21 x_plan f_Plan_tests)) - (1 : Int32))) fun x23 =>
  F_X5_grow_L135 bgf x23 I21 J22) bgf (1 : Int32) I18 J14) bgf (0 : Int32) I15) bgf (0 : Int32) I8 J) fun j7 =>
  if (29696 : Int32) = 0 then
    none
  else
    F_X5_grow_C26 I J
set_option maxRecDepth 100000 in
theorem cm_X5_grow  (I : HI) (J : HJ) : CM mX5_grow 26 0 0 [.ref 52] (zs true, I, J) (fV (zs true)) (F_X5_grow  I J) := by
  refine S.of okX5_grow pn_X5 (Nat.le_of_ble_eq_true rfl) ?_
  refine S.sub (lv' := [(0, .ref 52)]) [0] rfl ?_
  unfold F_X5_grow
  refine S.aload_n 0 0 rfl rfl ?_
  refine S.getR 1 rfl fo_X5_41 rfl rfl rfl ?_
  refine S.alen (29696 : Int32) 2 rfl rfl (by decide) (by decide) (by decide) ?_
  refine S.jn (fun j => ∀ (I6 : HI), S (fV (zs true)) mX5_grow (rmd 26 0 0) 0 0 (0, 0) 26 [(0, .ref 52)] [] (zs true, I6, J) (j I6)) (fun I6 => ?_) (fun j7 hj7 => ?_)
  · refine S.aload_n 12 0 rfl rfl ?_
    refine S.iconst (0 : Int32) 13 rfl (by decide) ?_
    refine S.putI 14 rfl fo_X5_25 rfl rfl rfl rfl (fun _ hq => by cases hq; exact Or.inl rfl) (fun I8 => ?_)
    refine S.iconst (0 : Int32) 15 rfl (by decide) ?_
    refine S.istore_n [(1, .int (0 : Int32)), (0, .ref 52)] 16 rfl (by decide) rfl ?_
    refine S.sub (lv' := [(0, .ref 52), (1, .int (0 : Int32))]) [1, 0] rfl ?_
    refine s_X5_grow_L33 _ (fun I13 J14 => ?_) bgf _ _ _
    refine S.aload_n 35 0 rfl rfl ?_
    refine S.getR 36 rfl fo_X5_38 rfl rfl rfl ?_
    refine S.iconst (0 : Int32) 37 rfl (by decide) ?_
    refine S.iconst (1 : Int32) 38 rfl (by decide) ?_
    refine S.iast 39 rfl rfl (fun I15 => ?_)
    refine S.iconst (0 : Int32) 40 rfl (by decide) ?_
    refine S.istore_n [(1, .int (0 : Int32)), (0, .ref 52)] 41 rfl (by decide) rfl ?_
    refine S.sub (lv' := [(0, .ref 52), (1, .int (0 : Int32))]) [1, 0] rfl ?_
    refine s_X5_grow_L78 _ _ (fun I18 => ?_) bgf _ _
    refine S.iconst (1 : Int32) 55 rfl (by decide) ?_
    refine S.istore_n [(1, .int (1 : Int32)), (0, .ref 52)] 56 rfl (by decide) rfl ?_
    refine S.sub (lv' := [(0, .ref 52), (1, .int (1 : Int32))]) [1, 0] rfl ?_
    refine s_X5_grow_L105 _ (fun I21 J22 => ?_) bgf _ _ _
    refine S.iconst (1 : Int32) 68 rfl (by decide) ?_
    refine S.aload_n 69 0 rfl rfl ?_
    refine S.getI 70 rfl fo_X5_18 rfl rfl ?_
    refine S.ishl 71 rfl ?_
    refine S.iconst (1 : Int32) 72 rfl (by decide) ?_
    refine S.isub 73 rfl ?_
    refine S.nmi (fun x23 => ?_)
    refine S.istore_n [(1, .int x23), (0, .ref 52)] 74 rfl (by decide) rfl ?_
    refine S.sub (lv' := [(0, .ref 52), (1, .int x23)]) [1, 0] rfl ?_
    refine s_X5_grow_L135 bgf _ _ _
  · refine S.if_ne 26 3 rfl (by decide) (fun _ => ?_) (fun _ => ?_)
    · exact s_X5_grow_C26 I J
    · exact S.none
def F_X5_worstBehind_L13 (l1 : Int32) (l2 : Int32) (l3 : Int32) (l4 : Int32) (I : HI) (J : HJ) : Nat → Int32 → Int32 → Option Int32
  | 0, _, _ => none
  | K+1, l5, l6 =>
    if (I x_plan f_Plan_groups) ≤ l6 then
      some l5
    else
      bx (l4 + l6) 29696 <|
      bx (l4 + l3) 29696 <|
      lb (fun (y3 : Int32) =>
      F_X5_worstBehind_L13 l1 l2 l3 l4 I J K y3 (l6 + 1)) fun j4 =>
      if (I p_cells (Int32.toNatClampNeg (l4 + l6))) = (I p_cells (Int32.toNatClampNeg (l4 + l3))) then
        cp (F_X5_depthAt (l1 ||| (oshl (1 : Int32) l2)) l6 I J) fun r5 =>
        lb ((omax l5 r5)) fun x6 =>
        j4 x6
      else
        j4 l5
set_option maxRecDepth 100000 in
theorem s_X5_worstBehind_L13 (l1 : Int32) (l2 : Int32) (l3 : Int32) (l4 : Int32) (I : HI) (J : HJ) : ∀ (K : Nat) (l5 : Int32) (l6 : Int32), S (pI (zs true, I, J)) mX5_worstBehind (rmd 3 0 0) 0 0 (0, 0) 13 [(0, .ref 52), (1, .int l1), (2, .int l2), (3, .int l3), (4, .int l4), (5, .int l5), (6, .int l6)] [] (zs true, I, J) (F_X5_worstBehind_L13 l1 l2 l3 l4 I J K l5 l6) := by
  intro K
  induction K with
  | zero => intro l5 l6; exact S.none
  | succ K ih =>
    intro l5 l6
    rw [F_X5_worstBehind_L13]
    refine S.iload 8 6 rfl rfl ?_
    refine S.aload_n 9 0 rfl rfl ?_
    refine S.getI 10 rfl fo_X5_25 rfl rfl ?_
    refine S.icmp_ge 68 11 rfl (by decide) (fun _ => ?_) (fun _ => ?_)
    · refine S.iload 38 5 rfl rfl ?_
      exact S.iret 39 rfl rfl rfl (Nat.le_refl _) (Nat.le_refl _) rfl
    · refine S.aload_n 12 0 rfl rfl ?_
      refine S.getR 13 rfl fo_X5_41 rfl rfl rfl ?_
      refine S.iload 14 4 rfl rfl ?_
      refine S.iload 15 6 rfl rfl ?_
      refine S.iadd 16 rfl ?_
      refine S.iald 17 rfl rfl ?_
      refine S.aload_n 18 0 rfl rfl ?_
      refine S.getR 19 rfl fo_X5_41 rfl rfl rfl ?_
      refine S.iload 20 4 rfl rfl ?_
      refine S.iload_n 21 3 rfl rfl ?_
      refine S.iadd 22 rfl ?_
      refine S.iald 23 rfl rfl ?_
      refine S.jn (fun j => ∀ (y3 : Int32), S (pI (zs true, I, J)) mX5_worstBehind (rmd 3 0 0) 0 0 (0, 0) 62 [(0, .ref 52), (1, .int l1), (2, .int l2), (3, .int l3), (4, .int l4), (5, .int y3), (6, .int l6)] [] (zs true, I, J) (j y3)) (fun y3 => ?_) (fun j4 hj4 => ?_)
      · refine S.iinc (l6 + 1) [(6, .int (l6 + 1)), (0, .ref 52), (1, .int l1), (2, .int l2), (3, .int l3), (4, .int l4), (5, .int y3)] 36 6 rfl rfl rfl (by decide) rfl ?_
        refine S.goto 13 37 rfl (by decide) ?_
        refine S.sub (lv' := [(0, .ref 52), (1, .int l1), (2, .int l2), (3, .int l3), (4, .int l4), (5, .int y3), (6, .int (l6 + 1))]) [1, 2, 3, 4, 5, 6, 0] rfl ?_
        exact ih _ _
      · refine S.icmp_ne 62 24 rfl (by decide) (fun _ => ?_) (fun _ => ?_)
        · exact hj4 _
        · refine S.iload 25 5 rfl rfl ?_
          refine S.aload_n 26 0 rfl rfl ?_
          refine S.iload_n 27 1 rfl rfl ?_
          refine S.iconst (1 : Int32) 28 rfl (by decide) ?_
          refine S.iload_n 29 2 rfl rfl ?_
          refine S.ishl 30 rfl ?_
          refine S.ior 31 rfl ?_
          refine S.iload 32 6 rfl rfl ?_
          refine S.qVI (d := 2) (av := [.int (l1 ||| (oshl (1 : Int32) l2)), .int l6]) (rs := [.int l6, .int (l1 ||| (oshl (1 : Int32) l2))]) (b := 52) 33 rfl co_X5_101 rfl rfl rfl rfl rfl ⟨⟨Nat.le_of_ble_eq_true rfl, Nat.le_of_ble_eq_true rfl⟩, ⟨Nat.le_of_ble_eq_true rfl, Nat.le_of_ble_eq_true rfl⟩, Nat.le_of_ble_eq_true rfl⟩ (cm_X5_depthAt (l1 ||| (oshl (1 : Int32) l2)) l6 I J) (fun r5 => ?_)
          refine S.mmax 34 rfl co_X5_104 ⟨Nat.le_of_ble_eq_true rfl, Nat.le_of_ble_eq_true rfl, Nat.le_of_ble_eq_true rfl, Nat.le_of_ble_eq_true rfl, Nat.le_of_ble_eq_true rfl⟩ ?_
          refine S.nmi (fun x6 => ?_)
          refine S.istore [(5, .int x6), (0, .ref 52), (1, .int l1), (2, .int l2), (3, .int l3), (4, .int l4), (6, .int l6)] 35 rfl (by decide) rfl ?_
          refine S.sub (lv' := [(0, .ref 52), (1, .int l1), (2, .int l2), (3, .int l3), (4, .int l4), (5, .int x6), (6, .int l6)]) [1, 2, 3, 4, 5, 0, 6] rfl ?_
          exact hj4 _
def F_X5_worstBehind (l1 : Int32) (l2 : Int32) (l3 : Int32) (I : HI) (J : HJ) : Option Int32 :=
  cp (F_X5_place l1 (0 : Int32)) fun r2 =>
  F_X5_worstBehind_L13 l1 l2 l3 r2 I J bgf (0 : Int32) (0 : Int32)
set_option maxRecDepth 100000 in
theorem cm_X5_worstBehind (l1 : Int32) (l2 : Int32) (l3 : Int32) (I : HI) (J : HJ) : CM mX5_worstBehind 3 0 0 [.ref 52, .int l1, .int l2, .int l3] (zs true, I, J) (pI (zs true, I, J)) (F_X5_worstBehind l1 l2 l3 I J) := by
  refine S.of okX5_worstBehind pn_X5 (Nat.le_of_ble_eq_true rfl) ?_
  refine S.sub (lv' := [(0, .ref 52), (1, .int l1), (2, .int l2), (3, .int l3)]) [0, 1, 2, 3] rfl ?_
  unfold F_X5_worstBehind
  refine S.iload_n 0 1 rfl rfl ?_
  refine S.iconst (0 : Int32) 1 rfl (by decide) ?_
  refine S.qSI (d := 1) (av := [.int l1, .int (0 : Int32)]) (rs := [.int (0 : Int32), .int l1]) 2 rfl co_X5_63 rfl rfl ⟨⟨Nat.le_of_ble_eq_true rfl, Nat.le_of_ble_eq_true rfl⟩, ⟨Nat.le_of_ble_eq_true rfl, Nat.le_of_ble_eq_true rfl⟩, Nat.le_of_ble_eq_true rfl⟩ (cm_X5_place (zs true, I, J) l1 (0 : Int32)) (fun r2 => ?_)
  refine S.istore [(4, .int r2), (0, .ref 52), (1, .int l1), (2, .int l2), (3, .int l3)] 3 rfl (by decide) rfl ?_
  refine S.iconst (0 : Int32) 4 rfl (by decide) ?_
  refine S.istore [(5, .int (0 : Int32)), (4, .int r2), (0, .ref 52), (1, .int l1), (2, .int l2), (3, .int l3)] 5 rfl (by decide) rfl ?_
  refine S.iconst (0 : Int32) 6 rfl (by decide) ?_
  refine S.istore [(6, .int (0 : Int32)), (5, .int (0 : Int32)), (4, .int r2), (0, .ref 52), (1, .int l1), (2, .int l2), (3, .int l3)] 7 rfl (by decide) rfl ?_
  refine S.sub (lv' := [(0, .ref 52), (1, .int l1), (2, .int l2), (3, .int l3), (4, .int r2), (5, .int (0 : Int32)), (6, .int (0 : Int32))]) [3, 4, 5, 6, 2, 1, 0] rfl ?_
  refine s_X5_worstBehind_L13 _ _ _ _ _ _ bgf _ _
def F_X5_firstTest_L10 (l1 : Int32) (l2 : Int32) (l3 : Int32) (I : HI) (J : HJ) : Nat → Int32 → Option Int32
  | 0, _ => none
  | K+1, l4 =>
    if (I x_plan f_Plan_tests) ≤ l4 then
      some (-1 : Int32)
    else
      if l3 ≤ 0 then
        some (-1 : Int32)
      else
        lb (
        F_X5_firstTest_L10 l1 l2 l3 I J K (l4 + 1)) fun j2 =>
        if ((oushr l1 l4) &&& (1 : Int32)) = 0 then
          cp (F_X5_worstBehind l1 l4 l2 I J) fun r3 =>
          if ((1 : Int32) + r3) = l3 then
            some l4
          else
            j2
        else
          j2
set_option maxRecDepth 100000 in
theorem s_X5_firstTest_L10 (l1 : Int32) (l2 : Int32) (l3 : Int32) (I : HI) (J : HJ) : ∀ (K : Nat) (l4 : Int32), S (pI (zs true, I, J)) mX5_firstTest (rmd 4 0 0) 0 0 (0, 0) 10 [(0, .ref 52), (1, .int l1), (2, .int l2), (3, .int l3), (4, .int l4)] [] (zs true, I, J) (F_X5_firstTest_L10 l1 l2 l3 I J K l4) := by
  intro K
  induction K with
  | zero => intro l4; exact S.none
  | succ K ih =>
    intro l4
    rw [F_X5_firstTest_L10]
    refine S.iload 7 4 rfl rfl ?_
    refine S.aload_n 8 0 rfl rfl ?_
    refine S.getI 9 rfl fo_X5_18 rfl rfl ?_
    refine S.icmp_ge 55 10 rfl (by decide) (fun _ => ?_) (fun _ => ?_)
    · refine S.iconst (-1 : Int32) 32 rfl (by decide) ?_
      exact S.iret 33 rfl rfl rfl (Nat.le_refl _) (Nat.le_refl _) rfl
    · refine S.iload_n 11 3 rfl rfl ?_
      refine S.if_le 55 12 rfl (by decide) (fun _ => ?_) (fun _ => ?_)
      · refine S.iconst (-1 : Int32) 32 rfl (by decide) ?_
        exact S.iret 33 rfl rfl rfl (Nat.le_refl _) (Nat.le_refl _) rfl
      · refine S.iload_n 13 1 rfl rfl ?_
        refine S.iload 14 4 rfl rfl ?_
        refine S.iushr 15 rfl ?_
        refine S.iconst (1 : Int32) 16 rfl (by decide) ?_
        refine S.iand 17 rfl ?_
        refine S.jn (fun j => S (pI (zs true, I, J)) mX5_firstTest (rmd 4 0 0) 0 0 (0, 0) 49 [(0, .ref 52), (1, .int l1), (2, .int l2), (3, .int l3), (4, .int l4)] [] (zs true, I, J) (j)) ?_ (fun j2 hj2 => ?_)
        · refine S.iinc (l4 + 1) [(4, .int (l4 + 1)), (0, .ref 52), (1, .int l1), (2, .int l2), (3, .int l3)] 30 4 rfl rfl rfl (by decide) rfl ?_
          refine S.goto 10 31 rfl (by decide) ?_
          refine S.sub (lv' := [(0, .ref 52), (1, .int l1), (2, .int l2), (3, .int l3), (4, .int (l4 + 1))]) [1, 2, 3, 4, 0] rfl ?_
          exact ih _
        · refine S.if_ne 49 18 rfl (by decide) (fun _ => ?_) (fun _ => ?_)
          · exact hj2
          · refine S.iconst (1 : Int32) 19 rfl (by decide) ?_
            refine S.aload_n 20 0 rfl rfl ?_
            refine S.iload_n 21 1 rfl rfl ?_
            refine S.iload 22 4 rfl rfl ?_
            refine S.iload_n 23 2 rfl rfl ?_
            refine S.qVI (d := 3) (av := [.int l1, .int l4, .int l2]) (rs := [.int l2, .int l4, .int l1]) (b := 52) 24 rfl co_X5_112 rfl rfl rfl rfl rfl ⟨⟨Nat.le_of_ble_eq_true rfl, Nat.le_of_ble_eq_true rfl⟩, ⟨Nat.le_of_ble_eq_true rfl, Nat.le_of_ble_eq_true rfl⟩, Nat.le_of_ble_eq_true rfl⟩ (cm_X5_worstBehind l1 l4 l2 I J) (fun r3 => ?_)
            refine S.iadd 25 rfl ?_
            refine S.iload_n 26 3 rfl rfl ?_
            refine S.icmp_ne 49 27 rfl (by decide) (fun _ => ?_) (fun _ => ?_)
            · exact hj2
            · refine S.iload 28 4 rfl rfl ?_
              exact S.iret 29 rfl rfl rfl (Nat.le_refl _) (Nat.le_refl _) rfl
def F_X5_firstTest (l1 : Int32) (l2 : Int32) (I : HI) (J : HJ) : Option Int32 :=
  cp (F_X5_depthAt l1 l2 I J) fun r1 =>
  F_X5_firstTest_L10 l1 l2 r1 I J bgf (0 : Int32)
set_option maxRecDepth 100000 in
theorem cm_X5_firstTest (l1 : Int32) (l2 : Int32) (I : HI) (J : HJ) : CM mX5_firstTest 4 0 0 [.ref 52, .int l1, .int l2] (zs true, I, J) (pI (zs true, I, J)) (F_X5_firstTest l1 l2 I J) := by
  refine S.of okX5_firstTest pn_X5 (Nat.le_of_ble_eq_true rfl) ?_
  refine S.sub (lv' := [(0, .ref 52), (1, .int l1), (2, .int l2)]) [0, 1, 2] rfl ?_
  unfold F_X5_firstTest
  refine S.aload_n 0 0 rfl rfl ?_
  refine S.iload_n 1 1 rfl rfl ?_
  refine S.iload_n 2 2 rfl rfl ?_
  refine S.qVI (d := 2) (av := [.int l1, .int l2]) (rs := [.int l2, .int l1]) (b := 52) 3 rfl co_X5_101 rfl rfl rfl rfl rfl ⟨⟨Nat.le_of_ble_eq_true rfl, Nat.le_of_ble_eq_true rfl⟩, ⟨Nat.le_of_ble_eq_true rfl, Nat.le_of_ble_eq_true rfl⟩, Nat.le_of_ble_eq_true rfl⟩ (cm_X5_depthAt l1 l2 I J) (fun r1 => ?_)
  refine S.istore_n [(3, .int r1), (0, .ref 52), (1, .int l1), (2, .int l2)] 4 rfl (by decide) rfl ?_
  refine S.iconst (0 : Int32) 5 rfl (by decide) ?_
  refine S.istore [(4, .int (0 : Int32)), (3, .int r1), (0, .ref 52), (1, .int l1), (2, .int l2)] 6 rfl (by decide) rfl ?_
  refine S.sub (lv' := [(0, .ref 52), (1, .int l1), (2, .int l2), (3, .int r1), (4, .int (0 : Int32))]) [2, 3, 4, 1, 0] rfl ?_
  refine s_X5_firstTest_L10 _ _ _ _ _ bgf _
def F_X5_groupOfFault_L2 (l1 : Int32) (I : HI) (J : HJ) (kx26 : Int32 → Option Int32) : Nat → Int32 → Option Int32
  | 0, _ => none
  | K+1, l2 =>
    if (I x_suspects f_Suspects_agreeing) ≤ l2 then
      some (0 : Int32)
    else
      bx l2 116 <|
      if (I x_suspects_agrees (Int32.toNatClampNeg l2)) = l1 then
        kx26 l2
      else
        F_X5_groupOfFault_L2 l1 I J kx26 K (l2 + 1)
set_option maxRecDepth 100000 in
theorem s_X5_groupOfFault_L2 (b : Bool) (l1 : Int32) (I : HI) (J : HJ) (kx26 : Int32 → Option Int32) (hkx26 : ∀ (y2 : Int32), S (pI (zs b, I, J)) mX5_groupOfFault (rmd 1 0 0) 0 0 (0, 0) 26 [(0, .ref 52), (2, .int y2)] [] (zs b, I, J) (kx26 y2)) : ∀ (K : Nat) (l2 : Int32), S (pI (zs b, I, J)) mX5_groupOfFault (rmd 1 0 0) 0 0 (0, 0) 2 [(0, .ref 52), (1, .int l1), (2, .int l2)] [] (zs b, I, J) (F_X5_groupOfFault_L2 l1 I J kx26 K l2) := by
  intro K
  induction K with
  | zero => intro l2; exact S.none
  | succ K ih =>
    intro l2
    rw [F_X5_groupOfFault_L2]
    refine S.iload_n 2 2 rfl rfl ?_
    refine S.aload_n 3 0 rfl rfl ?_
    refine S.getR 4 rfl fo_X5_47 rfl rfl rfl ?_
    refine S.getI 5 rfl fo_X5_51 rfl rfl ?_
    refine S.icmp_ge 39 6 rfl (by decide) (fun _ => ?_) (fun _ => ?_)
    · refine S.iconst (0 : Int32) 21 rfl (by decide) ?_
      exact S.iret 22 rfl rfl rfl (Nat.le_refl _) (Nat.le_refl _) rfl
    · refine S.aload_n 7 0 rfl rfl ?_
      refine S.getR 8 rfl fo_X5_47 rfl rfl rfl ?_
      refine S.getR 9 rfl fo_X5_56 rfl rfl rfl ?_
      refine S.iload_n 10 2 rfl rfl ?_
      refine S.iald 11 rfl rfl ?_
      refine S.iload_n 12 1 rfl rfl ?_
      refine S.icmp_ne 33 13 rfl (by decide) (fun _ => ?_) (fun _ => ?_)
      · refine S.iinc (l2 + 1) [(2, .int (l2 + 1)), (0, .ref 52), (1, .int l1)] 19 2 rfl rfl rfl (by decide) rfl ?_
        refine S.goto 2 20 rfl (by decide) ?_
        refine S.sub (lv' := [(0, .ref 52), (1, .int l1), (2, .int (l2 + 1))]) [1, 2, 0] rfl ?_
        exact ih _
      · refine S.sub (lv' := [(0, .ref 52), (2, .int l2)]) [0, 2] rfl ?_
        exact hkx26 _
def F_X5_groupOfFault (l1 : Int32) (I : HI) (J : HJ) : Option Int32 :=
  F_X5_groupOfFault_L2 l1 I J (fun (y1 : Int32) =>
  bx y1 116 <|
  some (I x_plan_groupOf (Int32.toNatClampNeg y1))) bgf (0 : Int32)
set_option maxRecDepth 100000 in
theorem cm_X5_groupOfFault (b : Bool) (l1 : Int32) (I : HI) (J : HJ) : CM mX5_groupOfFault 1 0 0 [.ref 52, .int l1] (zs b, I, J) (pI (zs b, I, J)) (F_X5_groupOfFault l1 I J) := by
  refine S.of okX5_groupOfFault pn_X5 (Nat.le_of_ble_eq_true rfl) ?_
  refine S.sub (lv' := [(0, .ref 52), (1, .int l1)]) [0, 1] rfl ?_
  unfold F_X5_groupOfFault
  refine S.iconst (0 : Int32) 0 rfl (by decide) ?_
  refine S.istore_n [(2, .int (0 : Int32)), (0, .ref 52), (1, .int l1)] 1 rfl (by decide) rfl ?_
  refine S.sub (lv' := [(0, .ref 52), (1, .int l1), (2, .int (0 : Int32))]) [1, 2, 0] rfl ?_
  refine s_X5_groupOfFault_L2 b _ _ _ _ (fun y1 => ?_) bgf _
  refine S.aload_n 14 0 rfl rfl ?_
  refine S.getR 15 rfl fo_X5_22 rfl rfl rfl ?_
  refine S.iload_n 16 1 rfl rfl ?_
  refine S.iald 17 rfl rfl ?_
  exact S.iret 18 rfl rfl rfl (Nat.le_refl _) (Nat.le_refl _) rfl
def F_X5_sizeOfGroup_L4 (l1 : Int32) (I : HI) (J : HJ) : Nat → Int32 → Int32 → Option Int32
  | 0, _, _ => none
  | K+1, l2, l3 =>
    if (I x_suspects f_Suspects_agreeing) ≤ l3 then
      some l2
    else
      bx l3 116 <|
      lb (fun (y2 : Int32) (y3 : Int32) =>
      lb ((y2 + y3)) fun x5 =>
      F_X5_sizeOfGroup_L4 l1 I J K x5 (l3 + 1)) fun j4 =>
      if (I x_plan_groupOf (Int32.toNatClampNeg l3)) = l1 then
        j4 l2 (1 : Int32)
      else
        j4 l2 (0 : Int32)
set_option maxRecDepth 100000 in
theorem s_X5_sizeOfGroup_L4 (b : Bool) (l1 : Int32) (I : HI) (J : HJ) : ∀ (K : Nat) (l2 : Int32) (l3 : Int32), S (pI (zs b, I, J)) mX5_sizeOfGroup (rmd 1 0 0) 0 0 (0, 0) 4 [(0, .ref 52), (1, .int l1), (2, .int l2), (3, .int l3)] [] (zs b, I, J) (F_X5_sizeOfGroup_L4 l1 I J K l2 l3) := by
  intro K
  induction K with
  | zero => intro l2 l3; exact S.none
  | succ K ih =>
    intro l2 l3
    rw [F_X5_sizeOfGroup_L4]
    refine S.iload_n 4 3 rfl rfl ?_
    refine S.aload_n 5 0 rfl rfl ?_
    refine S.getR 6 rfl fo_X5_47 rfl rfl rfl ?_
    refine S.getI 7 rfl fo_X5_51 rfl rfl ?_
    refine S.icmp_ge 39 8 rfl (by decide) (fun _ => ?_) (fun _ => ?_)
    · refine S.iload_n 23 2 rfl rfl ?_
      exact S.iret 24 rfl rfl rfl (Nat.le_refl _) (Nat.le_refl _) rfl
    · refine S.iload_n 9 2 rfl rfl ?_
      refine S.aload_n 10 0 rfl rfl ?_
      refine S.getR 11 rfl fo_X5_22 rfl rfl rfl ?_
      refine S.iload_n 12 3 rfl rfl ?_
      refine S.iald 13 rfl rfl ?_
      refine S.iload_n 14 1 rfl rfl ?_
      refine S.jn (fun j => ∀ (y2 : Int32) (y3 : Int32), S (pI (zs b, I, J)) mX5_sizeOfGroup (rmd 1 0 0) 0 0 (0, 0) 31 [(0, .ref 52), (1, .int l1), (3, .int l3)] [.int y3, .int y2] (zs b, I, J) (j y2 y3)) (fun y2 y3 => ?_) (fun j4 hj4 => ?_)
      · refine S.iadd 19 rfl ?_
        refine S.nmi (fun x5 => ?_)
        refine S.istore_n [(2, .int x5), (0, .ref 52), (1, .int l1), (3, .int l3)] 20 rfl (by decide) rfl ?_
        refine S.iinc (l3 + 1) [(3, .int (l3 + 1)), (2, .int x5), (0, .ref 52), (1, .int l1)] 21 3 rfl rfl rfl (by decide) rfl ?_
        refine S.goto 4 22 rfl (by decide) ?_
        refine S.sub (lv' := [(0, .ref 52), (1, .int l1), (2, .int x5), (3, .int (l3 + 1))]) [2, 3, 1, 0] rfl ?_
        exact ih _ _
      · refine S.icmp_ne 30 15 rfl (by decide) (fun _ => ?_) (fun _ => ?_)
        · refine S.iconst (0 : Int32) 18 rfl (by decide) ?_
          refine S.sub (lv' := [(0, .ref 52), (1, .int l1), (3, .int l3)]) [0, 1, 3] rfl ?_
          exact hj4 _ _
        · refine S.iconst (1 : Int32) 16 rfl (by decide) ?_
          refine S.goto 31 17 rfl (by decide) ?_
          refine S.sub (lv' := [(0, .ref 52), (1, .int l1), (3, .int l3)]) [0, 1, 3] rfl ?_
          exact hj4 _ _
def F_X5_sizeOfGroup (l1 : Int32) (I : HI) (J : HJ) : Option Int32 :=
  F_X5_sizeOfGroup_L4 l1 I J bgf (0 : Int32) (0 : Int32)
set_option maxRecDepth 100000 in
theorem cm_X5_sizeOfGroup (b : Bool) (l1 : Int32) (I : HI) (J : HJ) : CM mX5_sizeOfGroup 1 0 0 [.ref 52, .int l1] (zs b, I, J) (pI (zs b, I, J)) (F_X5_sizeOfGroup l1 I J) := by
  refine S.of okX5_sizeOfGroup pn_X5 (Nat.le_of_ble_eq_true rfl) ?_
  refine S.sub (lv' := [(0, .ref 52), (1, .int l1)]) [0, 1] rfl ?_
  unfold F_X5_sizeOfGroup
  refine S.iconst (0 : Int32) 0 rfl (by decide) ?_
  refine S.istore_n [(2, .int (0 : Int32)), (0, .ref 52), (1, .int l1)] 1 rfl (by decide) rfl ?_
  refine S.iconst (0 : Int32) 2 rfl (by decide) ?_
  refine S.istore_n [(3, .int (0 : Int32)), (2, .int (0 : Int32)), (0, .ref 52), (1, .int l1)] 3 rfl (by decide) rfl ?_
  refine S.sub (lv' := [(0, .ref 52), (1, .int l1), (2, .int (0 : Int32)), (3, .int (0 : Int32))]) [2, 3, 1, 0] rfl ?_
  refine s_X5_sizeOfGroup_L4 b _ _ _ bgf _ _

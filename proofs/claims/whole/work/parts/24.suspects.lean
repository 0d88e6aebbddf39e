/-! computations and their proofs: X7 -/
def F_X7_firstTouch  (I : HI) (J : HJ) : Option Int32 :=
  some ((1 : Int32) + (I x_board f_Board_wide))
set_option maxRecDepth 100000 in
theorem cm_X7_firstTouch (b : Bool)  (I : HI) (J : HJ) : CM mX7_firstTouch 1 0 0 [.ref 48] (zs b, I, J) (pI (zs b, I, J)) (F_X7_firstTouch  I J) := by
  refine S.of okX7_firstTouch pn_X7 (Nat.le_of_ble_eq_true rfl) ?_
  refine S.sub (lv' := [(0, .ref 48)]) [0] rfl ?_
  unfold F_X7_firstTouch
  refine S.iconst (1 : Int32) 0 rfl (by decide) ?_
  refine S.aload_n 1 0 rfl rfl ?_
  refine S.getR 2 rfl fo_X7_39 rfl rfl rfl ?_
  refine S.getI 3 rfl fo_X7_48 rfl rfl ?_
  refine S.iadd 4 rfl ?_
  exact S.iret 5 rfl rfl rfl (Nat.le_refl _) (Nat.le_refl _) rfl
def F_X7_firstTurned  (I : HI) (J : HJ) : Option Int32 :=
  cp (F_X7_firstTouch I J) fun r1 =>
  nzi (2 : Int32) <|
  some (r1 + (((I x_board f_Board_wide) * ((I x_board f_Board_wide) - (1 : Int32))) / (2 : Int32)))
set_option maxRecDepth 100000 in
theorem cm_X7_firstTurned (b : Bool)  (I : HI) (J : HJ) : CM mX7_firstTurned 2 0 0 [.ref 48] (zs b, I, J) (pI (zs b, I, J)) (F_X7_firstTurned  I J) := by
  refine S.of okX7_firstTurned pn_X7 (Nat.le_of_ble_eq_true rfl) ?_
  refine S.sub (lv' := [(0, .ref 48)]) [0] rfl ?_
  unfold F_X7_firstTurned
  refine S.aload_n 0 0 rfl rfl ?_
  refine S.qVI (d := 1) (av := []) (rs := []) (b := 48) 1 rfl co_X7_53 rfl rfl rfl rfl rfl ⟨⟨Nat.le_of_ble_eq_true rfl, Nat.le_of_ble_eq_true rfl⟩, ⟨Nat.le_of_ble_eq_true rfl, Nat.le_of_ble_eq_true rfl⟩, Nat.le_of_ble_eq_true rfl⟩ (cm_X7_firstTouch b I J) (fun r1 => ?_)
  refine S.aload_n 2 0 rfl rfl ?_
  refine S.getR 3 rfl fo_X7_39 rfl rfl rfl ?_
  refine S.getI 4 rfl fo_X7_48 rfl rfl ?_
  refine S.aload_n 5 0 rfl rfl ?_
  refine S.getR 6 rfl fo_X7_39 rfl rfl rfl ?_
  refine S.getI 7 rfl fo_X7_48 rfl rfl ?_
  refine S.iconst (1 : Int32) 8 rfl (by decide) ?_
  refine S.isub 9 rfl ?_
  refine S.imul 10 rfl ?_
  refine S.iconst (2 : Int32) 11 rfl (by decide) ?_
  refine S.idiv 12 rfl ?_
  refine S.iadd 13 rfl ?_
  exact S.iret 14 rfl rfl rfl (Nat.le_refl _) (Nat.le_refl _) rfl
def F_X7_size  (I : HI) (J : HJ) : Option Int32 :=
  cp (F_X7_firstTurned I J) fun r1 =>
  some (r1 + (I x_board f_Board_lamps))
set_option maxRecDepth 100000 in
theorem cm_X7_size (b : Bool)  (I : HI) (J : HJ) : CM mX7_size 3 0 0 [.ref 48] (zs b, I, J) (pI (zs b, I, J)) (F_X7_size  I J) := by
  refine S.of okX7_size pn_X7 (Nat.le_of_ble_eq_true rfl) ?_
  refine S.sub (lv' := [(0, .ref 48)]) [0] rfl ?_
  unfold F_X7_size
  refine S.aload_n 0 0 rfl rfl ?_
  refine S.qVI (d := 2) (av := []) (rs := []) (b := 48) 1 rfl co_X7_57 rfl rfl rfl rfl rfl ⟨⟨Nat.le_of_ble_eq_true rfl, Nat.le_of_ble_eq_true rfl⟩, ⟨Nat.le_of_ble_eq_true rfl, Nat.le_of_ble_eq_true rfl⟩, Nat.le_of_ble_eq_true rfl⟩ (cm_X7_firstTurned b I J) (fun r1 => ?_)
  refine S.aload_n 2 0 rfl rfl ?_
  refine S.getR 3 rfl fo_X7_39 rfl rfl rfl ?_
  refine S.getI 4 rfl fo_X7_60 rfl rfl ?_
  refine S.iadd 5 rfl ?_
  exact S.iret 6 rfl rfl rfl (Nat.le_refl _) (Nat.le_refl _) rfl
def F_X7_has (l1 : Int32) (I : HI) (J : HJ) : Option Int32 :=
  if l1 < 0 then
    some (0 : Int32)
  else
    cp (F_X7_size I J) fun r1 =>
    if r1 ≤ l1 then
      some (0 : Int32)
    else
      some (1 : Int32)
set_option maxRecDepth 100000 in
theorem cm_X7_has (b : Bool) (l1 : Int32) (I : HI) (J : HJ) : CM mX7_has 4 0 0 [.ref 48, .int l1] (zs b, I, J) (pI (zs b, I, J)) (F_X7_has l1 I J) := by
  refine S.of okX7_has pn_X7 (Nat.le_of_ble_eq_true rfl) ?_
  refine S.sub (lv' := [(0, .ref 48), (1, .int l1)]) [0, 1] rfl ?_
  unfold F_X7_has
  refine S.iload_n 0 1 rfl rfl ?_
  refine S.if_lt 16 1 rfl (by decide) (fun _ => ?_) (fun _ => ?_)
  · refine S.iconst (0 : Int32) 8 rfl (by decide) ?_
    exact S.iret 9 rfl rfl rfl (Nat.le_refl _) (Nat.le_refl _) rfl
  · refine S.iload_n 2 1 rfl rfl ?_
    refine S.aload_n 3 0 rfl rfl ?_
    refine S.qVI (d := 3) (av := []) (rs := []) (b := 48) 4 rfl co_X7_63 rfl rfl rfl rfl rfl ⟨⟨Nat.le_of_ble_eq_true rfl, Nat.le_of_ble_eq_true rfl⟩, ⟨Nat.le_of_ble_eq_true rfl, Nat.le_of_ble_eq_true rfl⟩, Nat.le_of_ble_eq_true rfl⟩ (cm_X7_size b I J) (fun r1 => ?_)
    refine S.icmp_ge 16 5 rfl (by decide) (fun _ => ?_) (fun _ => ?_)
    · refine S.iconst (0 : Int32) 8 rfl (by decide) ?_
      exact S.iret 9 rfl rfl rfl (Nat.le_refl _) (Nat.le_refl _) rfl
    · refine S.iconst (1 : Int32) 6 rfl (by decide) ?_
      refine S.goto 17 7 rfl (by decide) ?_
      exact S.iret 9 rfl rfl rfl (Nat.le_refl _) (Nat.le_refl _) rfl
def F_X7_kindOf (l1 : Int32) (I : HI) (J : HJ) : Option Int32 :=
  if l1 = 0 then
    some (0 : Int32)
  else
    cp (F_X7_firstTouch I J) fun r1 =>
    if r1 ≤ l1 then
      cp (F_X7_firstTurned I J) fun r2 =>
      if r2 ≤ l1 then
        some (3 : Int32)
      else
        some (2 : Int32)
    else
      some (1 : Int32)
set_option maxRecDepth 100000 in
theorem cm_X7_kindOf (b : Bool) (l1 : Int32) (I : HI) (J : HJ) : CM mX7_kindOf 3 0 0 [.ref 48, .int l1] (zs b, I, J) (pI (zs b, I, J)) (F_X7_kindOf l1 I J) := by
  refine S.of okX7_kindOf pn_X7 (Nat.le_of_ble_eq_true rfl) ?_
  refine S.sub (lv' := [(0, .ref 48), (1, .int l1)]) [0, 1] rfl ?_
  unfold F_X7_kindOf
  refine S.iload_n 0 1 rfl rfl ?_
  refine S.if_ne 6 1 rfl (by decide) (fun _ => ?_) (fun _ => ?_)
  · refine S.iload_n 4 1 rfl rfl ?_
    refine S.aload_n 5 0 rfl rfl ?_
    refine S.qVI (d := 1) (av := []) (rs := []) (b := 48) 6 rfl co_X7_53 rfl rfl rfl rfl rfl ⟨⟨Nat.le_of_ble_eq_true rfl, Nat.le_of_ble_eq_true rfl⟩, ⟨Nat.le_of_ble_eq_true rfl, Nat.le_of_ble_eq_true rfl⟩, Nat.le_of_ble_eq_true rfl⟩ (cm_X7_firstTouch b I J) (fun r1 => ?_)
    refine S.icmp_ge 16 7 rfl (by decide) (fun _ => ?_) (fun _ => ?_)
    · refine S.iload_n 10 1 rfl rfl ?_
      refine S.aload_n 11 0 rfl rfl ?_
      refine S.qVI (d := 2) (av := []) (rs := []) (b := 48) 12 rfl co_X7_57 rfl rfl rfl rfl rfl ⟨⟨Nat.le_of_ble_eq_true rfl, Nat.le_of_ble_eq_true rfl⟩, ⟨Nat.le_of_ble_eq_true rfl, Nat.le_of_ble_eq_true rfl⟩, Nat.le_of_ble_eq_true rfl⟩ (cm_X7_firstTurned b I J) (fun r2 => ?_)
      refine S.icmp_ge 28 13 rfl (by decide) (fun _ => ?_) (fun _ => ?_)
      · refine S.iconst (3 : Int32) 16 rfl (by decide) ?_
        exact S.iret 17 rfl rfl rfl (Nat.le_refl _) (Nat.le_refl _) rfl
      · refine S.iconst (2 : Int32) 14 rfl (by decide) ?_
        refine S.goto 29 15 rfl (by decide) ?_
        exact S.iret 17 rfl rfl rfl (Nat.le_refl _) (Nat.le_refl _) rfl
    · refine S.iconst (1 : Int32) 8 rfl (by decide) ?_
      exact S.iret 9 rfl rfl rfl (Nat.le_refl _) (Nat.le_refl _) rfl
  · refine S.iconst (0 : Int32) 2 rfl (by decide) ?_
    exact S.iret 3 rfl rfl rfl (Nat.le_refl _) (Nat.le_refl _) rfl
def F_X7_firstOfPair_L20 (I : HI) (J : HJ) : Nat → Int32 → Int32 → Int32 → Option Int32
  | 0, _, _, _ => none
  | K+1, l2, l3, l4 =>
    if l4 ≤ 0 then
      some l2
    else
      if l3 < l4 then
        some l2
      else
        lb ((l3 - l4)) fun x7 =>
        F_X7_firstOfPair_L20 I J K (l2 + 1) x7 (l4 + (-1))
set_option maxRecDepth 100000 in
theorem s_X7_firstOfPair_L20 (b : Bool) (I : HI) (J : HJ) : ∀ (K : Nat) (l2 : Int32) (l3 : Int32) (l4 : Int32), S (pI (zs b, I, J)) mX7_firstOfPair (rmd 2 0 0) 0 0 (0, 0) 20 [(2, .int l2), (3, .int l3), (4, .int l4)] [] (zs b, I, J) (F_X7_firstOfPair_L20 I J K l2 l3 l4) := by
  intro K
  induction K with
  | zero => intro l2 l3 l4; exact S.none
  | succ K ih =>
    intro l2 l3 l4
    rw [F_X7_firstOfPair_L20]
    refine S.iload 13 2 rfl rfl ?_
    refine S.if_le 45 14 rfl (by decide) (fun _ => ?_) (fun _ => ?_)
    · refine S.iload_n 25 0 rfl rfl ?_
      exact S.iret 26 rfl rfl rfl (Nat.le_refl _) (Nat.le_refl _) rfl
    · refine S.iload_n 15 1 rfl rfl ?_
      refine S.iload 16 2 rfl rfl ?_
      refine S.icmp_lt 45 17 rfl (by decide) (fun _ => ?_) (fun _ => ?_)
      · refine S.iload_n 25 0 rfl rfl ?_
        exact S.iret 26 rfl rfl rfl (Nat.le_refl _) (Nat.le_refl _) rfl
      · refine S.iload_n 18 1 rfl rfl ?_
        refine S.iload 19 2 rfl rfl ?_
        refine S.isub 20 rfl ?_
        refine S.nmi (fun x7 => ?_)
        refine S.istore_n [(3, .int x7), (2, .int l2), (4, .int l4)] 21 rfl (by decide) rfl ?_
        refine S.iinc (l2 + 1) [(2, .int (l2 + 1)), (3, .int x7), (4, .int l4)] 22 1 rfl rfl rfl (by decide) rfl ?_
        refine S.iinc (l4 + (-1)) [(4, .int (l4 + (-1))), (2, .int (l2 + 1)), (3, .int x7)] 23 2 rfl rfl rfl (by decide) rfl ?_
        refine S.goto 20 24 rfl (by decide) ?_
        refine S.sub (lv' := [(2, .int (l2 + 1)), (3, .int x7), (4, .int (l4 + (-1)))]) [1, 2, 0] rfl ?_
        exact ih _ _ _
def F_X7_firstOfPair (l1 : Int32) (I : HI) (J : HJ) : Option Int32 :=
  cp (F_X7_firstTouch I J) fun r4 =>
  lb ((l1 - r4)) fun x5 =>
  lb (((I x_board f_Board_wide) - (1 : Int32))) fun x6 =>
  F_X7_firstOfPair_L20 I J bgf (0 : Int32) x5 x6
set_option maxRecDepth 100000 in
theorem cm_X7_firstOfPair (b : Bool) (l1 : Int32) (I : HI) (J : HJ) : CM mX7_firstOfPair 2 0 0 [.ref 48, .int l1] (zs b, I, J) (pI (zs b, I, J)) (F_X7_firstOfPair l1 I J) := by
  refine S.of okX7_firstOfPair pn_X7 (Nat.le_of_ble_eq_true rfl) ?_
  refine S.sub (lv' := [(0, .ref 48), (1, .int l1)]) [0, 1] rfl ?_
  unfold F_X7_firstOfPair
  refine S.iconst (0 : Int32) 0 rfl (by decide) ?_
  refine S.istore_n [(2, .int (0 : Int32)), (0, .ref 48), (1, .int l1)] 1 rfl (by decide) rfl ?_
  refine S.iload_n 2 2 rfl rfl ?_
  refine S.aload_n 3 1 rfl rfl ?_
  refine S.qVI (d := 1) (av := []) (rs := []) (b := 48) 4 rfl co_X7_53 rfl rfl rfl rfl rfl ⟨⟨Nat.le_of_ble_eq_true rfl, Nat.le_of_ble_eq_true rfl⟩, ⟨Nat.le_of_ble_eq_true rfl, Nat.le_of_ble_eq_true rfl⟩, Nat.le_of_ble_eq_true rfl⟩ (cm_X7_firstTouch b I J) (fun r4 => ?_)
  refine S.isub 5 rfl ?_
  refine S.nmi (fun x5 => ?_)
  refine S.istore_n [(3, .int x5), (2, .int (0 : Int32)), (0, .ref 48), (1, .int l1)] 6 rfl (by decide) rfl ?_
  refine S.aload_n 7 2 rfl rfl ?_
  refine S.getR 8 rfl fo_X7_39 rfl rfl rfl ?_
  refine S.getI 9 rfl fo_X7_48 rfl rfl ?_
  refine S.iconst (1 : Int32) 10 rfl (by decide) ?_
  refine S.isub 11 rfl ?_
  refine S.nmi (fun x6 => ?_)
  refine S.istore [(4, .int x6), (3, .int x5), (2, .int (0 : Int32)), (0, .ref 48), (1, .int l1)] 12 rfl (by decide) rfl ?_
  refine S.sub (lv' := [(2, .int (0 : Int32)), (3, .int x5), (4, .int x6)]) [2, 1, 0] rfl ?_
  refine s_X7_firstOfPair_L20 b _ _ bgf _ _ _
def F_X7_firstOf (l1 : Int32) (I : HI) (J : HJ) : Option Int32 :=
  if l1 = 0 then
    some (-1 : Int32)
  else
    cp (F_X7_firstTouch I J) fun r1 =>
    if r1 ≤ l1 then
      cp (F_X7_firstTurned I J) fun r2 =>
      if r2 ≤ l1 then
        cp (F_X7_firstTurned I J) fun r3 =>
        some (l1 - r3)
      else
        cp (F_X7_firstOfPair l1 I J) fun r4 =>
        some r4
    else
      some (l1 - (1 : Int32))
set_option maxRecDepth 100000 in
theorem cm_X7_firstOf (b : Bool) (l1 : Int32) (I : HI) (J : HJ) : CM mX7_firstOf 3 0 0 [.ref 48, .int l1] (zs b, I, J) (pI (zs b, I, J)) (F_X7_firstOf l1 I J) := by
  refine S.of okX7_firstOf pn_X7 (Nat.le_of_ble_eq_true rfl) ?_
  refine S.sub (lv' := [(0, .ref 48), (1, .int l1)]) [0, 1] rfl ?_
  unfold F_X7_firstOf
  refine S.iload_n 0 1 rfl rfl ?_
  refine S.if_ne 6 1 rfl (by decide) (fun _ => ?_) (fun _ => ?_)
  · refine S.iload_n 4 1 rfl rfl ?_
    refine S.aload_n 5 0 rfl rfl ?_
    refine S.qVI (d := 1) (av := []) (rs := []) (b := 48) 6 rfl co_X7_53 rfl rfl rfl rfl rfl ⟨⟨Nat.le_of_ble_eq_true rfl, Nat.le_of_ble_eq_true rfl⟩, ⟨Nat.le_of_ble_eq_true rfl, Nat.le_of_ble_eq_true rfl⟩, Nat.le_of_ble_eq_true rfl⟩ (cm_X7_firstTouch b I J) (fun r1 => ?_)
    refine S.icmp_ge 18 7 rfl (by decide) (fun _ => ?_) (fun _ => ?_)
    · refine S.iload_n 12 1 rfl rfl ?_
      refine S.aload_n 13 0 rfl rfl ?_
      refine S.qVI (d := 2) (av := []) (rs := []) (b := 48) 14 rfl co_X7_57 rfl rfl rfl rfl rfl ⟨⟨Nat.le_of_ble_eq_true rfl, Nat.le_of_ble_eq_true rfl⟩, ⟨Nat.le_of_ble_eq_true rfl, Nat.le_of_ble_eq_true rfl⟩, Nat.le_of_ble_eq_true rfl⟩ (cm_X7_firstTurned b I J) (fun r2 => ?_)
      refine S.icmp_ge 34 15 rfl (by decide) (fun _ => ?_) (fun _ => ?_)
      · refine S.iload_n 20 1 rfl rfl ?_
        refine S.aload_n 21 0 rfl rfl ?_
        refine S.qVI (d := 2) (av := []) (rs := []) (b := 48) 22 rfl co_X7_57 rfl rfl rfl rfl rfl ⟨⟨Nat.le_of_ble_eq_true rfl, Nat.le_of_ble_eq_true rfl⟩, ⟨Nat.le_of_ble_eq_true rfl, Nat.le_of_ble_eq_true rfl⟩, Nat.le_of_ble_eq_true rfl⟩ (cm_X7_firstTurned b I J) (fun r3 => ?_)
        refine S.isub 23 rfl ?_
        exact S.iret 24 rfl rfl rfl (Nat.le_refl _) (Nat.le_refl _) rfl
      · refine S.aload_n 16 0 rfl rfl ?_
        refine S.iload_n 17 1 rfl rfl ?_
        refine S.qVI (d := 2) (av := [.int l1]) (rs := [.int l1]) (b := 48) 18 rfl co_X7_66 rfl rfl rfl rfl rfl ⟨⟨Nat.le_of_ble_eq_true rfl, Nat.le_of_ble_eq_true rfl⟩, ⟨Nat.le_of_ble_eq_true rfl, Nat.le_of_ble_eq_true rfl⟩, Nat.le_of_ble_eq_true rfl⟩ (cm_X7_firstOfPair b l1 I J) (fun r4 => ?_)
        refine S.goto 40 19 rfl (by decide) ?_
        exact S.iret 24 rfl rfl rfl (Nat.le_refl _) (Nat.le_refl _) rfl
    · refine S.iload_n 8 1 rfl rfl ?_
      refine S.iconst (1 : Int32) 9 rfl (by decide) ?_
      refine S.isub 10 rfl ?_
      exact S.iret 11 rfl rfl rfl (Nat.le_refl _) (Nat.le_refl _) rfl
  · refine S.iconst (-1 : Int32) 2 rfl (by decide) ?_
    exact S.iret 3 rfl rfl rfl (Nat.le_refl _) (Nat.le_refl _) rfl
def F_X7_secondOfPair (l1 : Int32) (l2 : Int32) (I : HI) (J : HJ) : Option Int32 :=
  nzi (2 : Int32) <|
  lb (((l2 * ((((2 : Int32) * (I x_board f_Board_wide)) - l2) - (1 : Int32))) / (2 : Int32))) fun x2 =>
  cp (F_X7_firstTouch I J) fun r3 =>
  some ((((l1 - r3) - x2) + l2) + (1 : Int32))
set_option maxRecDepth 100000 in
theorem cm_X7_secondOfPair (b : Bool) (l1 : Int32) (l2 : Int32) (I : HI) (J : HJ) : CM mX7_secondOfPair 2 0 0 [.ref 48, .int l1, .int l2] (zs b, I, J) (pI (zs b, I, J)) (F_X7_secondOfPair l1 l2 I J) := by
  refine S.of okX7_secondOfPair pn_X7 (Nat.le_of_ble_eq_true rfl) ?_
  refine S.sub (lv' := [(0, .ref 48), (1, .int l1), (2, .int l2)]) [0, 1, 2] rfl ?_
  unfold F_X7_secondOfPair
  refine S.iload_n 0 2 rfl rfl ?_
  refine S.iconst (2 : Int32) 1 rfl (by decide) ?_
  refine S.aload_n 2 0 rfl rfl ?_
  refine S.getR 3 rfl fo_X7_39 rfl rfl rfl ?_
  refine S.getI 4 rfl fo_X7_48 rfl rfl ?_
  refine S.imul 5 rfl ?_
  refine S.iload_n 6 2 rfl rfl ?_
  refine S.isub 7 rfl ?_
  refine S.iconst (1 : Int32) 8 rfl (by decide) ?_
  refine S.isub 9 rfl ?_
  refine S.imul 10 rfl ?_
  refine S.iconst (2 : Int32) 11 rfl (by decide) ?_
  refine S.idiv 12 rfl ?_
  refine S.nmi (fun x2 => ?_)
  refine S.istore_n [(3, .int x2), (0, .ref 48), (1, .int l1), (2, .int l2)] 13 rfl (by decide) rfl ?_
  refine S.iload_n 14 2 rfl rfl ?_
  refine S.aload_n 15 1 rfl rfl ?_
  refine S.qVI (d := 1) (av := []) (rs := []) (b := 48) 16 rfl co_X7_53 rfl rfl rfl rfl rfl ⟨⟨Nat.le_of_ble_eq_true rfl, Nat.le_of_ble_eq_true rfl⟩, ⟨Nat.le_of_ble_eq_true rfl, Nat.le_of_ble_eq_true rfl⟩, Nat.le_of_ble_eq_true rfl⟩ (cm_X7_firstTouch b I J) (fun r3 => ?_)
  refine S.isub 17 rfl ?_
  refine S.iload_n 18 0 rfl rfl ?_
  refine S.isub 19 rfl ?_
  refine S.iload_n 20 3 rfl rfl ?_
  refine S.iadd 21 rfl ?_
  refine S.iconst (1 : Int32) 22 rfl (by decide) ?_
  refine S.iadd 23 rfl ?_
  exact S.iret 24 rfl rfl rfl (Nat.le_refl _) (Nat.le_refl _) rfl
def F_X7_glowWith (l1 : Int32) (l2 : Int32) (l3 : Int32) (I : HI) (J : HJ) : Option (Int64 × HI × HJ) :=
  cl (F_X1_lay l2 l3 I J) fun _ I1 J2 =>
  cp (F_X7_kindOf l1 I1 J2) fun r3 =>
  lb (fun (I4 : HI) (J5 : HJ) =>
  cl (F_X1_run I4 J5) fun r7 I8 J9 =>
  some (r7, I8, J9)) fun j6 =>
  if r3 = 1 then
    cp (F_X7_firstOf l1 I1 J2) fun r10 =>
    cl (F_X1_cut r10 I1 J2) fun _ I11 J12 =>
    j6 I11 J12
  else if r3 = 2 then
    cp (F_X7_firstOfPair l1 I1 J2) fun r13 =>
    cp (F_X7_secondOfPair l1 r13 I1 J2) fun r14 =>
    cl (F_X1_join r13 r14 I1 J2) fun _ I15 J16 =>
    j6 I15 J16
  else if r3 = 3 then
    cp (F_X7_firstOf l1 I1 J2) fun r17 =>
    cl (F_X1_turn r17 I1 J2) fun _ I18 J19 =>
    j6 I18 J19
  else 
    j6 I1 J2
set_option maxRecDepth 100000 in
theorem cm_X7_glowWith (b : Bool) (l1 : Int32) (l2 : Int32) (l3 : Int32) (I : HI) (J : HJ) : CM mX7_glowWith 24 0 0 [.ref 48, .int l1, .int l2, .int l3] (zs b, I, J) (fL (zs b)) (F_X7_glowWith l1 l2 l3 I J) := by
  refine S.of okX7_glowWith pn_X7 (Nat.le_of_ble_eq_true rfl) ?_
  refine S.sub (lv' := [(0, .ref 48), (1, .int l1), (2, .int l2), (3, .int l3)]) [0, 1, 2, 3] rfl ?_
  unfold F_X7_glowWith
  refine S.aload_n 0 0 rfl rfl ?_
  refine S.getR 1 rfl fo_X7_40 rfl rfl rfl ?_
  refine S.iload_n 2 2 rfl rfl ?_
  refine S.iload_n 3 3 rfl rfl ?_
  refine S.cVV (d := 1) (av := [.int l2, .int l3]) (rs := [.int l3, .int l2]) (b := 17) 4 rfl co_X7_77 rfl rfl rfl rfl rfl ⟨⟨Nat.le_of_ble_eq_true rfl, Nat.le_of_ble_eq_true rfl⟩, ⟨Nat.le_of_ble_eq_true rfl, Nat.le_of_ble_eq_true rfl⟩, Nat.le_of_ble_eq_true rfl⟩ (cm_X1_lay b l2 l3 I J) (fun _ I1 J2 => ?_)
  refine S.aload_n 5 0 rfl rfl ?_
  refine S.iload_n 6 1 rfl rfl ?_
  refine S.qVI (d := 3) (av := [.int l1]) (rs := [.int l1]) (b := 48) 7 rfl co_X7_70 rfl rfl rfl rfl rfl ⟨⟨Nat.le_of_ble_eq_true rfl, Nat.le_of_ble_eq_true rfl⟩, ⟨Nat.le_of_ble_eq_true rfl, Nat.le_of_ble_eq_true rfl⟩, Nat.le_of_ble_eq_true rfl⟩ (cm_X7_kindOf b l1 I1 J2) (fun r3 => ?_)
  refine S.jn (fun j => ∀ (I4 : HI) (J5 : HJ), S (fL (zs b)) mX7_glowWith (rmd 24 0 0) 0 0 (0, 0) 96 [(0, .ref 48)] [] (zs b, I4, J5) (j I4 J5)) (fun I4 J5 => ?_) (fun j6 hj6 => ?_)
  · refine S.aload_n 36 0 rfl rfl ?_
    refine S.getR 37 rfl fo_X7_40 rfl rfl rfl ?_
    refine S.cVL (d := 23) (av := []) (rs := []) (b := 17) 38 rfl co_X7_96 rfl rfl rfl rfl rfl ⟨⟨Nat.le_of_ble_eq_true rfl, Nat.le_of_ble_eq_true rfl⟩, ⟨Nat.le_of_ble_eq_true rfl, Nat.le_of_ble_eq_true rfl⟩, Nat.le_of_ble_eq_true rfl⟩ (cm_X1_run b I4 J5) (fun r7 I8 J9 => ?_)
    exact S.lret 39 rfl rfl (Nat.le_refl _) (Nat.le_refl _) rfl
  · refine S.ite (fun c1 => ?_) (fun c1 => ?_)
    · refine S.tswIn 40 8 rfl (by rw [c1]; decide) (by rw [c1]; decide) (by rw [c1]; rfl) (by decide) ?_
      refine S.aload_n 9 0 rfl rfl ?_
      refine S.getR 10 rfl fo_X7_40 rfl rfl rfl ?_
      refine S.aload_n 11 0 rfl rfl ?_
      refine S.iload_n 12 1 rfl rfl ?_
      refine S.qVI (d := 3) (av := [.int l1]) (rs := [.int l1]) (b := 48) 13 rfl co_X7_83 rfl rfl rfl rfl rfl ⟨⟨Nat.le_of_ble_eq_true rfl, Nat.le_of_ble_eq_true rfl⟩, ⟨Nat.le_of_ble_eq_true rfl, Nat.le_of_ble_eq_true rfl⟩, Nat.le_of_ble_eq_true rfl⟩ (cm_X7_firstOf b l1 I1 J2) (fun r10 => ?_)
      refine S.cVV (d := 1) (av := [.int r10]) (rs := [.int r10]) (b := 17) 14 rfl co_X7_86 rfl rfl rfl rfl rfl ⟨⟨Nat.le_of_ble_eq_true rfl, Nat.le_of_ble_eq_true rfl⟩, ⟨Nat.le_of_ble_eq_true rfl, Nat.le_of_ble_eq_true rfl⟩, Nat.le_of_ble_eq_true rfl⟩ (cm_X1_cut b r10 I1 J2) (fun _ I11 J12 => ?_)
      refine S.goto 96 15 rfl (by decide) ?_
      refine S.sub (lv' := [(0, .ref 48)]) [0] rfl ?_
      exact hj6 _ _
    refine S.ite (fun c2 => ?_) (fun c2 => ?_)
    · refine S.tswIn 55 8 rfl (by rw [c2]; decide) (by rw [c2]; decide) (by rw [c2]; rfl) (by decide) ?_
      refine S.aload_n 16 0 rfl rfl ?_
      refine S.iload_n 17 1 rfl rfl ?_
      refine S.qVI (d := 2) (av := [.int l1]) (rs := [.int l1]) (b := 48) 18 rfl co_X7_66 rfl rfl rfl rfl rfl ⟨⟨Nat.le_of_ble_eq_true rfl, Nat.le_of_ble_eq_true rfl⟩, ⟨Nat.le_of_ble_eq_true rfl, Nat.le_of_ble_eq_true rfl⟩, Nat.le_of_ble_eq_true rfl⟩ (cm_X7_firstOfPair b l1 I1 J2) (fun r13 => ?_)
      refine S.istore [(4, .int r13), (0, .ref 48), (1, .int l1), (2, .int l2), (3, .int l3)] 19 rfl (by decide) rfl ?_
      refine S.aload_n 20 1 rfl rfl ?_
      refine S.getR 21 rfl fo_X7_40 rfl rfl rfl ?_
      refine S.iload 22 0 rfl rfl ?_
      refine S.aload_n 23 1 rfl rfl ?_
      refine S.iload_n 24 2 rfl rfl ?_
      refine S.iload 25 0 rfl rfl ?_
      refine S.qVI (d := 2) (av := [.int l1, .int r13]) (rs := [.int r13, .int l1]) (b := 48) 26 rfl co_X7_73 rfl rfl rfl rfl rfl ⟨⟨Nat.le_of_ble_eq_true rfl, Nat.le_of_ble_eq_true rfl⟩, ⟨Nat.le_of_ble_eq_true rfl, Nat.le_of_ble_eq_true rfl⟩, Nat.le_of_ble_eq_true rfl⟩ (cm_X7_secondOfPair b l1 r13 I1 J2) (fun r14 => ?_)
      refine S.cVV (d := 1) (av := [.int r13, .int r14]) (rs := [.int r14, .int r13]) (b := 17) 27 rfl co_X7_90 rfl rfl rfl rfl rfl ⟨⟨Nat.le_of_ble_eq_true rfl, Nat.le_of_ble_eq_true rfl⟩, ⟨Nat.le_of_ble_eq_true rfl, Nat.le_of_ble_eq_true rfl⟩, Nat.le_of_ble_eq_true rfl⟩ (cm_X1_join b r13 r14 I1 J2) (fun _ I15 J16 => ?_)
      refine S.goto 96 28 rfl (by decide) ?_
      refine S.sub (lv' := [(0, .ref 48)]) [1] rfl ?_
      exact hj6 _ _
    refine S.ite (fun c3 => ?_) (fun c3 => ?_)
    · refine S.tswIn 81 8 rfl (by rw [c3]; decide) (by rw [c3]; decide) (by rw [c3]; rfl) (by decide) ?_
      refine S.aload_n 29 0 rfl rfl ?_
      refine S.getR 30 rfl fo_X7_40 rfl rfl rfl ?_
      refine S.aload_n 31 0 rfl rfl ?_
      refine S.iload_n 32 1 rfl rfl ?_
      refine S.qVI (d := 3) (av := [.int l1]) (rs := [.int l1]) (b := 48) 33 rfl co_X7_83 rfl rfl rfl rfl rfl ⟨⟨Nat.le_of_ble_eq_true rfl, Nat.le_of_ble_eq_true rfl⟩, ⟨Nat.le_of_ble_eq_true rfl, Nat.le_of_ble_eq_true rfl⟩, Nat.le_of_ble_eq_true rfl⟩ (cm_X7_firstOf b l1 I1 J2) (fun r17 => ?_)
      refine S.cVV (d := 1) (av := [.int r17]) (rs := [.int r17]) (b := 17) 34 rfl co_X7_93 rfl rfl rfl rfl rfl ⟨⟨Nat.le_of_ble_eq_true rfl, Nat.le_of_ble_eq_true rfl⟩, ⟨Nat.le_of_ble_eq_true rfl, Nat.le_of_ble_eq_true rfl⟩, Nat.le_of_ble_eq_true rfl⟩ (cm_X1_turn b r17 I1 J2) (fun _ I18 J19 => ?_)
      refine S.goto 96 35 rfl (by decide) ?_
      refine S.sub (lv' := [(0, .ref 48)]) [0] rfl ?_
      exact hj6 _ _
    · refine S.tswOut 96 8 rfl (tsw_out 1 3 (fun n h1 h2 => ?_)) (by decide) ?_
      · have h9 : n = 1 ∨ n = 2 ∨ n = 3 := by omega
        rcases h9 with rfl | rfl | rfl
        · exact c1
        · exact c2
        · exact c3
      refine S.sub (lv' := [(0, .ref 48)]) [0] rfl ?_
      exact hj6 _ _
def F_X7_glowBy (l1 : Int32) (l2 : Int32) (I : HI) (J : HJ) : Option (Int64 × HI × HJ) :=
  if l1 = 0 then
    bx l2 2187 <|
    some ((J x_table_glow (Int32.toNatClampNeg l2)), I, J)
  else
    bx l2 2187 <|
    lb ((I x_table_high (Int32.toNatClampNeg l2))) fun x3 =>
    bx l2 2187 <|
    lb ((I x_table_low (Int32.toNatClampNeg l2))) fun x4 =>
    if x3 = 0 then
      some ((0 : Int64), I, J)
    else
      if x4 = 0 then
        some ((0 : Int64), I, J)
      else
        cl (F_X7_glowWith l1 x3 x4 I J) fun r5 I6 J7 =>
        some (r5, I6, J7)
set_option maxRecDepth 100000 in
theorem cm_X7_glowBy (b : Bool) (l1 : Int32) (l2 : Int32) (I : HI) (J : HJ) : CM mX7_glowBy 25 0 0 [.ref 48, .int l1, .int l2] (zs b, I, J) (fL (zs b)) (F_X7_glowBy l1 l2 I J) := by
  refine S.of okX7_glowBy pn_X7 (Nat.le_of_ble_eq_true rfl) ?_
  refine S.sub (lv' := [(0, .ref 48), (1, .int l1), (2, .int l2)]) [0, 1, 2] rfl ?_
  unfold F_X7_glowBy
  refine S.iload_n 0 1 rfl rfl ?_
  refine S.if_ne 14 1 rfl (by decide) (fun _ => ?_) (fun _ => ?_)
  · refine S.aload_n 8 0 rfl rfl ?_
    refine S.getR 9 rfl fo_X7_29 rfl rfl rfl ?_
    refine S.getR 10 rfl fo_X7_103 rfl rfl rfl ?_
    refine S.iload_n 11 2 rfl rfl ?_
    refine S.iald 12 rfl rfl ?_
    refine S.nmi (fun x3 => ?_)
    refine S.istore_n [(3, .int x3), (0, .ref 48), (1, .int l1), (2, .int l2)] 13 rfl (by decide) rfl ?_
    refine S.aload_n 14 1 rfl rfl ?_
    refine S.getR 15 rfl fo_X7_29 rfl rfl rfl ?_
    refine S.getR 16 rfl fo_X7_106 rfl rfl rfl ?_
    refine S.iload_n 17 3 rfl rfl ?_
    refine S.iald 18 rfl rfl ?_
    refine S.nmi (fun x4 => ?_)
    refine S.istore [(4, .int x4), (3, .int x3), (0, .ref 48), (1, .int l1), (2, .int l2)] 19 rfl (by decide) rfl ?_
    refine S.iload_n 20 1 rfl rfl ?_
    refine S.if_eq 44 21 rfl (by decide) (fun _ => ?_) (fun _ => ?_)
    · refine S.lconst (0 : Int64) 24 rfl (by decide) ?_
      refine S.goto 56 25 rfl (by decide) ?_
      exact S.lret 31 rfl rfl (Nat.le_refl _) (Nat.le_refl _) rfl
    · refine S.iload 22 0 rfl rfl ?_
      refine S.if_ne 48 23 rfl (by decide) (fun _ => ?_) (fun _ => ?_)
      · refine S.aload_n 26 2 rfl rfl ?_
        refine S.iload_n 27 3 rfl rfl ?_
        refine S.iload_n 28 1 rfl rfl ?_
        refine S.iload 29 0 rfl rfl ?_
        refine S.cVL (d := 24) (av := [.int l1, .int x3, .int x4]) (rs := [.int x4, .int x3, .int l1]) (b := 48) 30 rfl co_X7_109 rfl rfl rfl rfl rfl ⟨⟨Nat.le_of_ble_eq_true rfl, Nat.le_of_ble_eq_true rfl⟩, ⟨Nat.le_of_ble_eq_true rfl, Nat.le_of_ble_eq_true rfl⟩, Nat.le_of_ble_eq_true rfl⟩ (cm_X7_glowWith b l1 x3 x4 I J) (fun r5 I6 J7 => ?_)
        exact S.lret 31 rfl rfl (Nat.le_refl _) (Nat.le_refl _) rfl
      · refine S.lconst (0 : Int64) 24 rfl (by decide) ?_
        refine S.goto 56 25 rfl (by decide) ?_
        exact S.lret 31 rfl rfl (Nat.le_refl _) (Nat.le_refl _) rfl
  · refine S.aload_n 2 0 rfl rfl ?_
    refine S.getR 3 rfl fo_X7_29 rfl rfl rfl ?_
    refine S.getR 4 rfl fo_X7_100 rfl rfl rfl ?_
    refine S.iload_n 5 2 rfl rfl ?_
    refine S.lald 6 rfl rfl ?_
    exact S.lret 7 rfl rfl (Nat.le_refl _) (Nat.le_refl _) rfl
def F_X7_firstParting_L3 (l1 : Int32) (l2 : Int32) : Nat → Int32 → HI → HJ → Option (Int32 × HI × HJ)
  | 0, _, _, _ => none
  | K+1, l4, I, J =>
    if (I x_table f_Table_size) ≤ l4 then
      some ((-1 : Int32), I, J)
    else
      if l1 = l2 then
        some ((-1 : Int32), I, J)
      else
        cl (F_X7_glowBy l1 l4 I J) fun r1 I2 J3 =>
        cl (F_X7_glowBy l2 l4 I2 J3) fun r4 I5 J6 =>
        if (lg_cmp r1 r4) = 0 then
          F_X7_firstParting_L3 l1 l2 K (l4 + 1) I5 J6
        else
          some (l4, I5, J6)
set_option maxRecDepth 100000 in
theorem s_X7_firstParting_L3 (b : Bool) (l1 : Int32) (l2 : Int32) : ∀ (K : Nat) (l4 : Int32) (I : HI) (J : HJ), S (fI (zs b)) mX7_firstParting (rmd 26 0 0) 0 0 (0, 0) 3 [(0, .ref 48), (1, .int l1), (2, .int l2), (4, .int l4)] [] (zs b, I, J) (F_X7_firstParting_L3 l1 l2 K l4 I J) := by
  intro K
  induction K with
  | zero => intro l4 I J; exact S.none
  | succ K ih =>
    intro l4 I J
    rw [F_X7_firstParting_L3]
    refine S.iload 2 3 rfl rfl ?_
    refine S.aload_n 3 0 rfl rfl ?_
    refine S.getR 4 rfl fo_X7_29 rfl rfl rfl ?_
    refine S.getI 5 rfl fo_X7_113 rfl rfl ?_
    refine S.icmp_ge 47 6 rfl (by decide) (fun _ => ?_) (fun _ => ?_)
    · refine S.iconst (-1 : Int32) 24 rfl (by decide) ?_
      exact S.iret 25 rfl rfl rfl (Nat.le_refl _) (Nat.le_refl _) rfl
    · refine S.iload_n 7 1 rfl rfl ?_
      refine S.iload_n 8 2 rfl rfl ?_
      refine S.icmp_eq 47 9 rfl (by decide) (fun _ => ?_) (fun _ => ?_)
      · refine S.iconst (-1 : Int32) 24 rfl (by decide) ?_
        exact S.iret 25 rfl rfl rfl (Nat.le_refl _) (Nat.le_refl _) rfl
      · refine S.aload_n 10 0 rfl rfl ?_
        refine S.iload_n 11 1 rfl rfl ?_
        refine S.iload 12 3 rfl rfl ?_
        refine S.cVL (d := 25) (av := [.int l1, .int l4]) (rs := [.int l4, .int l1]) (b := 48) 13 rfl co_X7_115 rfl rfl rfl rfl rfl ⟨⟨Nat.le_of_ble_eq_true rfl, Nat.le_of_ble_eq_true rfl⟩, ⟨Nat.le_of_ble_eq_true rfl, Nat.le_of_ble_eq_true rfl⟩, Nat.le_of_ble_eq_true rfl⟩ (cm_X7_glowBy b l1 l4 I J) (fun r1 I2 J3 => ?_)
        refine S.aload_n 14 0 rfl rfl ?_
        refine S.iload_n 15 2 rfl rfl ?_
        refine S.iload 16 3 rfl rfl ?_
        refine S.cVL (d := 25) (av := [.int l2, .int l4]) (rs := [.int l4, .int l2]) (b := 48) 17 rfl co_X7_115 rfl rfl rfl rfl rfl ⟨⟨Nat.le_of_ble_eq_true rfl, Nat.le_of_ble_eq_true rfl⟩, ⟨Nat.le_of_ble_eq_true rfl, Nat.le_of_ble_eq_true rfl⟩, Nat.le_of_ble_eq_true rfl⟩ (cm_X7_glowBy b l2 l4 I2 J3) (fun r4 I5 J6 => ?_)
        refine S.lcmp 18 rfl ?_
        refine S.if_eq 41 19 rfl (by decide) (fun _ => ?_) (fun _ => ?_)
        · refine S.iinc (l4 + 1) [(4, .int (l4 + 1)), (0, .ref 48), (1, .int l1), (2, .int l2)] 22 3 rfl rfl rfl (by decide) rfl ?_
          refine S.goto 3 23 rfl (by decide) ?_
          refine S.sub (lv' := [(0, .ref 48), (1, .int l1), (2, .int l2), (4, .int (l4 + 1))]) [1, 2, 3, 0] rfl ?_
          exact ih _ _ _
        · refine S.iload 20 3 rfl rfl ?_
          exact S.iret 21 rfl rfl rfl (Nat.le_refl _) (Nat.le_refl _) rfl
def F_X7_firstParting (l1 : Int32) (l2 : Int32) (l3 : Int32) (I : HI) (J : HJ) : Option (Int32 × HI × HJ) :=
  F_X7_firstParting_L3 l1 l2 bgf l3 I J
set_option maxRecDepth 100000 in
theorem cm_X7_firstParting (b : Bool) (l1 : Int32) (l2 : Int32) (l3 : Int32) (I : HI) (J : HJ) : CM mX7_firstParting 26 0 0 [.ref 48, .int l1, .int l2, .int l3] (zs b, I, J) (fI (zs b)) (F_X7_firstParting l1 l2 l3 I J) := by
  refine S.of okX7_firstParting pn_X7 (Nat.le_of_ble_eq_true rfl) ?_
  refine S.sub (lv' := [(0, .ref 48), (1, .int l1), (2, .int l2), (3, .int l3)]) [0, 1, 2, 3] rfl ?_
  unfold F_X7_firstParting
  refine S.iload_n 0 3 rfl rfl ?_
  refine S.istore [(4, .int l3), (0, .ref 48), (1, .int l1), (2, .int l2), (3, .int l3)] 1 rfl (by decide) rfl ?_
  refine S.sub (lv' := [(0, .ref 48), (1, .int l1), (2, .int l2), (4, .int l3)]) [1, 2, 3, 0] rfl ?_
  refine s_X7_firstParting_L3 b _ _ bgf _ _ _
def F_X7_firstAgainst_L2 (l1 : Int32) : Nat → Int32 → HI → HJ → Option (Int32 × HI × HJ)
  | 0, _, _, _ => none
  | K+1, l2, I, J =>
    if (I x_notes f_Notes_seenSize) ≤ l2 then
      some ((-2 : Int32), I, J)
    else
      bx l2 12 <|
      bx l2 12 <|
      cl (F_X7_glowWith l1 (I x_notes_seenHigh (Int32.toNatClampNeg l2)) (I x_notes_seenLow (Int32.toNatClampNeg l2)) I J) fun r1 I2 J3 =>
      bx l2 12 <|
      if (lg_cmp r1 (J3 x_notes_seenLamps (Int32.toNatClampNeg l2))) = 0 then
        F_X7_firstAgainst_L2 l1 K (l2 + 1) I2 J3
      else
        some (l2, I2, J3)
set_option maxRecDepth 100000 in
theorem s_X7_firstAgainst_L2 (b : Bool) (l1 : Int32) : ∀ (K : Nat) (l2 : Int32) (I : HI) (J : HJ), S (fI (zs b)) mX7_firstAgainst (rmd 25 0 0) 0 0 (0, 0) 2 [(0, .ref 48), (1, .int l1), (2, .int l2)] [] (zs b, I, J) (F_X7_firstAgainst_L2 l1 K l2 I J) := by
  intro K
  induction K with
  | zero => intro l2 I J; exact S.none
  | succ K ih =>
    intro l2 I J
    rw [F_X7_firstAgainst_L2]
    refine S.iload_n 2 2 rfl rfl ?_
    refine S.aload_n 3 0 rfl rfl ?_
    refine S.getR 4 rfl fo_X7_44 rfl rfl rfl ?_
    refine S.getI 5 rfl fo_X7_119 rfl rfl ?_
    refine S.icmp_ge 57 6 rfl (by decide) (fun _ => ?_) (fun _ => ?_)
    · refine S.bipush (-2 : Int32) 31 rfl (by decide) ?_
      exact S.iret 32 rfl rfl rfl (Nat.le_refl _) (Nat.le_refl _) rfl
    · refine S.aload_n 7 0 rfl rfl ?_
      refine S.iload_n 8 1 rfl rfl ?_
      refine S.aload_n 9 0 rfl rfl ?_
      refine S.getR 10 rfl fo_X7_44 rfl rfl rfl ?_
      refine S.getR 11 rfl fo_X7_124 rfl rfl rfl ?_
      refine S.iload_n 12 2 rfl rfl ?_
      refine S.iald 13 rfl rfl ?_
      refine S.aload_n 14 0 rfl rfl ?_
      refine S.getR 15 rfl fo_X7_44 rfl rfl rfl ?_
      refine S.getR 16 rfl fo_X7_127 rfl rfl rfl ?_
      refine S.iload_n 17 2 rfl rfl ?_
      refine S.iald 18 rfl rfl ?_
      refine S.cVL (d := 24) (av := [.int l1, .int (I x_notes_seenHigh (Int32.toNatClampNeg l2)), .int (I x_notes_seenLow (Int32.toNatClampNeg l2))]) (rs := [.int (I x_notes_seenLow (Int32.toNatClampNeg l2)), .int (I x_notes_seenHigh (Int32.toNatClampNeg l2)), .int l1]) (b := 48) 19 rfl co_X7_109 rfl rfl rfl rfl rfl ⟨⟨Nat.le_of_ble_eq_true rfl, Nat.le_of_ble_eq_true rfl⟩, ⟨Nat.le_of_ble_eq_true rfl, Nat.le_of_ble_eq_true rfl⟩, Nat.le_of_ble_eq_true rfl⟩ (cm_X7_glowWith b l1 (I x_notes_seenHigh (Int32.toNatClampNeg l2)) (I x_notes_seenLow (Int32.toNatClampNeg l2)) I J) (fun r1 I2 J3 => ?_)
      refine S.aload_n 20 0 rfl rfl ?_
      refine S.getR 21 rfl fo_X7_44 rfl rfl rfl ?_
      refine S.getR 22 rfl fo_X7_130 rfl rfl rfl ?_
      refine S.iload_n 23 2 rfl rfl ?_
      refine S.lald 24 rfl rfl ?_
      refine S.lcmp 25 rfl ?_
      refine S.if_eq 51 26 rfl (by decide) (fun _ => ?_) (fun _ => ?_)
      · refine S.iinc (l2 + 1) [(2, .int (l2 + 1)), (0, .ref 48), (1, .int l1)] 29 2 rfl rfl rfl (by decide) rfl ?_
        refine S.goto 2 30 rfl (by decide) ?_
        refine S.sub (lv' := [(0, .ref 48), (1, .int l1), (2, .int (l2 + 1))]) [1, 2, 0] rfl ?_
        exact ih _ _ _
      · refine S.iload_n 27 2 rfl rfl ?_
        exact S.iret 28 rfl rfl rfl (Nat.le_refl _) (Nat.le_refl _) rfl
def F_X7_firstAgainst (l1 : Int32) (I : HI) (J : HJ) : Option (Int32 × HI × HJ) :=
  F_X7_firstAgainst_L2 l1 bgf (0 : Int32) I J
set_option maxRecDepth 100000 in
theorem cm_X7_firstAgainst (b : Bool) (l1 : Int32) (I : HI) (J : HJ) : CM mX7_firstAgainst 25 0 0 [.ref 48, .int l1] (zs b, I, J) (fI (zs b)) (F_X7_firstAgainst l1 I J) := by
  refine S.of okX7_firstAgainst pn_X7 (Nat.le_of_ble_eq_true rfl) ?_
  refine S.sub (lv' := [(0, .ref 48), (1, .int l1)]) [0, 1] rfl ?_
  unfold F_X7_firstAgainst
  refine S.iconst (0 : Int32) 0 rfl (by decide) ?_
  refine S.istore_n [(2, .int (0 : Int32)), (0, .ref 48), (1, .int l1)] 1 rfl (by decide) rfl ?_
  refine S.sub (lv' := [(0, .ref 48), (1, .int l1), (2, .int (0 : Int32))]) [1, 2, 0] rfl ?_
  refine s_X7_firstAgainst_L2 b _ bgf _ _ _
def F_X7_gather_L12 (l1 : Int32) : Nat → Int32 → HI → HJ → Option (Unit × HI × HJ)
  | 0, _, _, _ => none
  | K+1, l2, I, J =>
    if l1 ≤ l2 then
      some ((), I, J)
    else
      if (116 : Int32) ≤ (I x_suspects f_Suspects_agreeing) then
        some ((), I, J)
      else
        cl (F_X7_firstAgainst l2 I J) fun r6 I7 J8 =>
        lb (fun (I9 : HI) =>
        F_X7_gather_L12 l1 K (l2 + 1) I9 J8) fun j10 =>
        if r6 = (-2 : Int32) then
          bx (I7 x_suspects f_Suspects_agreeing) 116 <|
          lb (ui I7 x_suspects_agrees (Int32.toNatClampNeg (I7 x_suspects f_Suspects_agreeing)) l2) fun I11 =>
          lb (ui I11 x_suspects f_Suspects_agreeing ((I11 x_suspects f_Suspects_agreeing) + (1 : Int32))) fun I12 =>
          j10 I12
        else
          j10 I7
set_option maxRecDepth 100000 in
theorem s_X7_gather_L12 (b : Bool) (l1 : Int32) : ∀ (K : Nat) (l2 : Int32) (I : HI) (J : HJ), S (fV (zs b)) mX7_gather (rmd 26 0 0) 0 0 (0, 0) 12 [(0, .ref 48), (1, .int l1), (2, .int l2)] [] (zs b, I, J) (F_X7_gather_L12 l1 K l2 I J) := by
  intro K
  induction K with
  | zero => intro l2 I J; exact S.none
  | succ K ih =>
    intro l2 I J
    rw [F_X7_gather_L12]
    refine S.iload_n 8 2 rfl rfl ?_
    refine S.iload_n 9 1 rfl rfl ?_
    refine S.icmp_ge 65 10 rfl (by decide) (fun _ => ?_) (fun _ => ?_)
    · exact S.vret 36 rfl rfl (Nat.le_refl _) (Nat.le_refl _) rfl
    · refine S.aload_n 11 0 rfl rfl ?_
      refine S.getI 12 rfl fo_X7_15 rfl rfl ?_
      refine S.aload_n 13 0 rfl rfl ?_
      refine S.getR 14 rfl fo_X7_9 rfl rfl rfl ?_
      refine S.alen (116 : Int32) 15 rfl rfl (by decide) (by decide) (by decide) ?_
      refine S.icmp_ge 65 16 rfl (by decide) (fun _ => ?_) (fun _ => ?_)
      · exact S.vret 36 rfl rfl (Nat.le_refl _) (Nat.le_refl _) rfl
      · refine S.aload_n 17 0 rfl rfl ?_
        refine S.iload_n 18 2 rfl rfl ?_
        refine S.cVI (d := 25) (av := [.int l2]) (rs := [.int l2]) (b := 48) 19 rfl co_X7_133 rfl rfl rfl rfl rfl ⟨⟨Nat.le_of_ble_eq_true rfl, Nat.le_of_ble_eq_true rfl⟩, ⟨Nat.le_of_ble_eq_true rfl, Nat.le_of_ble_eq_true rfl⟩, Nat.le_of_ble_eq_true rfl⟩ (cm_X7_firstAgainst b l2 I J) (fun r6 I7 J8 => ?_)
        refine S.bipush (-2 : Int32) 20 rfl (by decide) ?_
        refine S.jn (fun j => ∀ (I9 : HI), S (fV (zs b)) mX7_gather (rmd 26 0 0) 0 0 (0, 0) 59 [(0, .ref 48), (1, .int l1), (2, .int l2)] [] (zs b, I9, J8) (j I9)) (fun I9 => ?_) (fun j10 hj10 => ?_)
        · refine S.iinc (l2 + 1) [(2, .int (l2 + 1)), (0, .ref 48), (1, .int l1)] 34 2 rfl rfl rfl (by decide) rfl ?_
          refine S.goto 12 35 rfl (by decide) ?_
          refine S.sub (lv' := [(0, .ref 48), (1, .int l1), (2, .int (l2 + 1))]) [1, 2, 0] rfl ?_
          exact ih _ _ _
        · refine S.icmp_ne 59 21 rfl (by decide) (fun _ => ?_) (fun _ => ?_)
          · exact hj10 _
          · refine S.aload_n 22 0 rfl rfl ?_
            refine S.getR 23 rfl fo_X7_9 rfl rfl rfl ?_
            refine S.aload_n 24 0 rfl rfl ?_
            refine S.getI 25 rfl fo_X7_15 rfl rfl ?_
            refine S.iload_n 26 2 rfl rfl ?_
            refine S.iast 27 rfl rfl (fun I11 => ?_)
            refine S.aload_n 28 0 rfl rfl ?_
            refine S.dup 29 rfl rfl ?_
            refine S.getI 30 rfl fo_X7_15 rfl rfl ?_
            refine S.iconst (1 : Int32) 31 rfl (by decide) ?_
            refine S.iadd 32 rfl ?_
            refine S.putI 33 rfl fo_X7_15 rfl rfl rfl rfl (fun _ hq => by cases hq; exact Or.inl rfl) (fun I12 => ?_)
            exact hj10 _
def F_X7_gather  (I : HI) (J : HJ) : Option (Unit × HI × HJ) :=
  lb (ui I x_suspects f_Suspects_agreeing (0 : Int32)) fun I4 =>
  cp (F_X7_size I4 J) fun r5 =>
  F_X7_gather_L12 r5 bgf (0 : Int32) I4 J
set_option maxRecDepth 100000 in
theorem cm_X7_gather (b : Bool)  (I : HI) (J : HJ) : CM mX7_gather 26 0 0 [.ref 48] (zs b, I, J) (fV (zs b)) (F_X7_gather  I J) := by
  refine S.of okX7_gather pn_X7 (Nat.le_of_ble_eq_true rfl) ?_
  refine S.sub (lv' := [(0, .ref 48)]) [0] rfl ?_
  unfold F_X7_gather
  refine S.aload_n 0 0 rfl rfl ?_
  refine S.iconst (0 : Int32) 1 rfl (by decide) ?_
  refine S.putI 2 rfl fo_X7_15 rfl rfl rfl rfl (fun _ hq => by cases hq; exact Or.inl rfl) (fun I4 => ?_)
  refine S.aload_n 3 0 rfl rfl ?_
  refine S.qVI (d := 3) (av := []) (rs := []) (b := 48) 4 rfl co_X7_63 rfl rfl rfl rfl rfl ⟨⟨Nat.le_of_ble_eq_true rfl, Nat.le_of_ble_eq_true rfl⟩, ⟨Nat.le_of_ble_eq_true rfl, Nat.le_of_ble_eq_true rfl⟩, Nat.le_of_ble_eq_true rfl⟩ (cm_X7_size b I4 J) (fun r5 => ?_)
  refine S.istore_n [(1, .int r5), (0, .ref 48)] 5 rfl (by decide) rfl ?_
  refine S.iconst (0 : Int32) 6 rfl (by decide) ?_
  refine S.istore_n [(2, .int (0 : Int32)), (1, .int r5), (0, .ref 48)] 7 rfl (by decide) rfl ?_
  refine S.sub (lv' := [(0, .ref 48), (1, .int r5), (2, .int (0 : Int32))]) [2, 1, 0] rfl ?_
  refine s_X7_gather_L12 b _ bgf _ _ _
def F_X7_joinGroup_L2 (l1 : Int64) (I : HI) (J : HJ) (kx21 : Int32 → Option (Int32 × HI × HJ)) (kx44 : Option (Int32 × HI × HJ)) : Nat → Int32 → Option (Int32 × HI × HJ)
  | 0, _ => none
  | K+1, l3 =>
    if (I x_suspects f_Suspects_groups) ≤ l3 then
      kx44
    else
      bx l3 116 <|
      if (lg_cmp (J x_suspects_groupGlow (Int32.toNatClampNeg l3)) l1) = 0 then
        kx21 l3
      else
        F_X7_joinGroup_L2 l1 I J kx21 kx44 K (l3 + 1)
set_option maxRecDepth 100000 in
theorem s_X7_joinGroup_L2 (b : Bool) (l1 : Int64) (I : HI) (J : HJ) (kx21 : Int32 → Option (Int32 × HI × HJ)) (kx44 : Option (Int32 × HI × HJ)) (hkx21 : ∀ (y3 : Int32), S (fI (zs b)) mX7_joinGroup (rmd 1 0 0) 0 0 (0, 0) 21 [(0, .ref 48), (3, .int y3)] [] (zs b, I, J) (kx21 y3)) (hkx44 : S (fI (zs b)) mX7_joinGroup (rmd 1 0 0) 0 0 (0, 0) 44 [(0, .ref 48), (1, .long l1)] [] (zs b, I, J) (kx44)) : ∀ (K : Nat) (l3 : Int32), S (fI (zs b)) mX7_joinGroup (rmd 1 0 0) 0 0 (0, 0) 2 [(0, .ref 48), (1, .long l1), (3, .int l3)] [] (zs b, I, J) (F_X7_joinGroup_L2 l1 I J kx21 kx44 K l3) := by
  intro K
  induction K with
  | zero => intro l3; exact S.none
  | succ K ih =>
    intro l3
    rw [F_X7_joinGroup_L2]
    refine S.iload_n 2 2 rfl rfl ?_
    refine S.aload_n 3 0 rfl rfl ?_
    refine S.getI 4 rfl fo_X7_26 rfl rfl ?_
    refine S.icmp_ge 44 5 rfl (by decide) (fun _ => ?_) (fun _ => ?_)
    · refine S.sub (lv' := [(0, .ref 48), (1, .long l1)]) [0, 1] rfl ?_
      exact hkx44
    · refine S.aload_n 6 0 rfl rfl ?_
      refine S.getR 7 rfl fo_X7_19 rfl rfl rfl ?_
      refine S.iload_n 8 2 rfl rfl ?_
      refine S.lald 9 rfl rfl ?_
      refine S.lload_n 10 1 rfl rfl ?_
      refine S.lcmp 11 rfl ?_
      refine S.if_ne 38 12 rfl (by decide) (fun _ => ?_) (fun _ => ?_)
      · refine S.iinc (l3 + 1) [(3, .int (l3 + 1)), (0, .ref 48), (1, .long l1)] 26 2 rfl rfl rfl (by decide) rfl ?_
        refine S.goto 2 27 rfl (by decide) ?_
        refine S.sub (lv' := [(0, .ref 48), (1, .long l1), (3, .int (l3 + 1))]) [1, 2, 0] rfl ?_
        exact ih _
      · refine S.sub (lv' := [(0, .ref 48), (3, .int l3)]) [0, 2] rfl ?_
        exact hkx21 _
def F_X7_joinGroup (l1 : Int64) (I : HI) (J : HJ) : Option (Int32 × HI × HJ) :=
  F_X7_joinGroup_L2 l1 I J (fun (y5 : Int32) =>
  bx y5 116 <|
  bx y5 116 <|
  lb (ui I x_suspects_groupSize (Int32.toNatClampNeg y5) ((I x_suspects_groupSize (Int32.toNatClampNeg y5)) + (1 : Int32))) fun I6 =>
  bx y5 116 <|
  some ((I6 x_suspects_groupSize (Int32.toNatClampNeg y5)), I6, J)) (if (116 : Int32) ≤ (I x_suspects f_Suspects_groups) then
    some ((1 : Int32), I, J)
  else
    bx (I x_suspects f_Suspects_groups) 116 <|
    lb (uj J x_suspects_groupGlow (Int32.toNatClampNeg (I x_suspects f_Suspects_groups)) l1) fun J7 =>
    bx (I x_suspects f_Suspects_groups) 116 <|
    lb (ui I x_suspects_groupSize (Int32.toNatClampNeg (I x_suspects f_Suspects_groups)) (1 : Int32)) fun I8 =>
    lb (ui I8 x_suspects f_Suspects_groups ((I8 x_suspects f_Suspects_groups) + (1 : Int32))) fun I9 =>
    some ((1 : Int32), I9, J7)) bgf (0 : Int32)
set_option maxRecDepth 100000 in
theorem cm_X7_joinGroup (b : Bool) (l1 : Int64) (I : HI) (J : HJ) : CM mX7_joinGroup 1 0 0 [.ref 48, .long l1] (zs b, I, J) (fI (zs b)) (F_X7_joinGroup l1 I J) := by
  refine S.of okX7_joinGroup pn_X7 (Nat.le_of_ble_eq_true rfl) ?_
  refine S.sub (lv' := [(0, .ref 48), (1, .long l1)]) [0, 1] rfl ?_
  unfold F_X7_joinGroup
  refine S.iconst (0 : Int32) 0 rfl (by decide) ?_
  refine S.istore_n [(3, .int (0 : Int32)), (0, .ref 48), (1, .long l1)] 1 rfl (by decide) rfl ?_
  refine S.sub (lv' := [(0, .ref 48), (1, .long l1), (3, .int (0 : Int32))]) [1, 2, 0] rfl ?_
  refine s_X7_joinGroup_L2 b _ _ _ _ _ (fun y5 => ?_) ?_ bgf _
  · refine S.aload_n 13 0 rfl rfl ?_
    refine S.getR 14 rfl fo_X7_23 rfl rfl rfl ?_
    refine S.iload_n 15 1 rfl rfl ?_
    refine S.dup2_11 16 rfl rfl rfl ?_
    refine S.iald 17 rfl rfl ?_
    refine S.iconst (1 : Int32) 18 rfl (by decide) ?_
    refine S.iadd 19 rfl ?_
    refine S.iast 20 rfl rfl (fun I6 => ?_)
    refine S.aload_n 21 0 rfl rfl ?_
    refine S.getR 22 rfl fo_X7_23 rfl rfl rfl ?_
    refine S.iload_n 23 1 rfl rfl ?_
    refine S.iald 24 rfl rfl ?_
    exact S.iret 25 rfl rfl rfl (Nat.le_refl _) (Nat.le_refl _) rfl
  · refine S.aload_n 28 0 rfl rfl ?_
    refine S.getI 29 rfl fo_X7_26 rfl rfl ?_
    refine S.aload_n 30 0 rfl rfl ?_
    refine S.getR 31 rfl fo_X7_19 rfl rfl rfl ?_
    refine S.alen (116 : Int32) 32 rfl rfl (by decide) (by decide) (by decide) ?_
    refine S.icmp_ge 86 33 rfl (by decide) (fun _ => ?_) (fun _ => ?_)
    · refine S.iconst (1 : Int32) 52 rfl (by decide) ?_
      exact S.iret 53 rfl rfl rfl (Nat.le_refl _) (Nat.le_refl _) rfl
    · refine S.aload_n 34 0 rfl rfl ?_
      refine S.getR 35 rfl fo_X7_19 rfl rfl rfl ?_
      refine S.aload_n 36 0 rfl rfl ?_
      refine S.getI 37 rfl fo_X7_26 rfl rfl ?_
      refine S.lload_n 38 1 rfl rfl ?_
      refine S.last 39 rfl rfl (fun J7 => ?_)
      refine S.aload_n 40 0 rfl rfl ?_
      refine S.getR 41 rfl fo_X7_23 rfl rfl rfl ?_
      refine S.aload_n 42 0 rfl rfl ?_
      refine S.getI 43 rfl fo_X7_26 rfl rfl ?_
      refine S.iconst (1 : Int32) 44 rfl (by decide) ?_
      refine S.iast 45 rfl rfl (fun I8 => ?_)
      refine S.aload_n 46 0 rfl rfl ?_
      refine S.dup 47 rfl rfl ?_
      refine S.getI 48 rfl fo_X7_26 rfl rfl ?_
      refine S.iconst (1 : Int32) 49 rfl (by decide) ?_
      refine S.iadd 50 rfl ?_
      refine S.putI 51 rfl fo_X7_26 rfl rfl rfl rfl (fun _ hq => by cases hq; exact Or.inl rfl) (fun I9 => ?_)
      refine S.iconst (1 : Int32) 52 rfl (by decide) ?_
      exact S.iret 53 rfl rfl rfl (Nat.le_refl _) (Nat.le_refl _) rfl
def F_X7_leftAtWorst_L10 (l1 : Int32) (l2 : Int32) : Nat → Int32 → Int32 → HI → HJ → Option (Int32 × HI × HJ)
  | 0, _, _, _, _ => none
  | K+1, l3, l4, I, J =>
    if (I x_suspects f_Suspects_agreeing) ≤ l4 then
      some (l3, I, J)
    else
      if l2 ≤ l3 then
        some (l3, I, J)
      else
        bx l4 116 <|
        cl (F_X7_glowBy (I x_suspects_agrees (Int32.toNatClampNeg l4)) l1 I J) fun r4 I5 J6 =>
        cl (F_X7_joinGroup r4 I5 J6) fun r7 I8 J9 =>
        lb ((omax l3 r7)) fun x10 =>
        F_X7_leftAtWorst_L10 l1 l2 K x10 (l4 + 1) I8 J9
set_option maxRecDepth 100000 in
theorem s_X7_leftAtWorst_L10 (b : Bool) (l1 : Int32) (l2 : Int32) : ∀ (K : Nat) (l3 : Int32) (l4 : Int32) (I : HI) (J : HJ), S (fI (zs b)) mX7_leftAtWorst (rmd 26 0 0) 0 0 (0, 0) 10 [(0, .ref 48), (1, .int l1), (2, .int l2), (3, .int l3), (4, .int l4)] [] (zs b, I, J) (F_X7_leftAtWorst_L10 l1 l2 K l3 l4 I J) := by
  intro K
  induction K with
  | zero => intro l3 l4 I J; exact S.none
  | succ K ih =>
    intro l3 l4 I J
    rw [F_X7_leftAtWorst_L10]
    refine S.iload 7 4 rfl rfl ?_
    refine S.aload_n 8 0 rfl rfl ?_
    refine S.getI 9 rfl fo_X7_15 rfl rfl ?_
    refine S.icmp_ge 51 10 rfl (by decide) (fun _ => ?_) (fun _ => ?_)
    · refine S.iload_n 28 3 rfl rfl ?_
      exact S.iret 29 rfl rfl rfl (Nat.le_refl _) (Nat.le_refl _) rfl
    · refine S.iload_n 11 3 rfl rfl ?_
      refine S.iload_n 12 2 rfl rfl ?_
      refine S.icmp_ge 51 13 rfl (by decide) (fun _ => ?_) (fun _ => ?_)
      · refine S.iload_n 28 3 rfl rfl ?_
        exact S.iret 29 rfl rfl rfl (Nat.le_refl _) (Nat.le_refl _) rfl
      · refine S.iload_n 14 3 rfl rfl ?_
        refine S.aload_n 15 0 rfl rfl ?_
        refine S.aload_n 16 0 rfl rfl ?_
        refine S.aload_n 17 0 rfl rfl ?_
        refine S.getR 18 rfl fo_X7_9 rfl rfl rfl ?_
        refine S.iload 19 4 rfl rfl ?_
        refine S.iald 20 rfl rfl ?_
        refine S.iload_n 21 1 rfl rfl ?_
        refine S.cVL (d := 25) (av := [.int (I x_suspects_agrees (Int32.toNatClampNeg l4)), .int l1]) (rs := [.int l1, .int (I x_suspects_agrees (Int32.toNatClampNeg l4))]) (b := 48) 22 rfl co_X7_115 rfl rfl rfl rfl rfl ⟨⟨Nat.le_of_ble_eq_true rfl, Nat.le_of_ble_eq_true rfl⟩, ⟨Nat.le_of_ble_eq_true rfl, Nat.le_of_ble_eq_true rfl⟩, Nat.le_of_ble_eq_true rfl⟩ (cm_X7_glowBy b (I x_suspects_agrees (Int32.toNatClampNeg l4)) l1 I J) (fun r4 I5 J6 => ?_)
        refine S.cVI (d := 1) (av := [.long r4]) (rs := [.long r4]) (b := 48) 23 rfl co_X7_136 rfl rfl rfl rfl rfl ⟨⟨Nat.le_of_ble_eq_true rfl, Nat.le_of_ble_eq_true rfl⟩, ⟨Nat.le_of_ble_eq_true rfl, Nat.le_of_ble_eq_true rfl⟩, Nat.le_of_ble_eq_true rfl⟩ (cm_X7_joinGroup b r4 I5 J6) (fun r7 I8 J9 => ?_)
        refine S.mmax 24 rfl co_X7_140 ⟨Nat.le_of_ble_eq_true rfl, Nat.le_of_ble_eq_true rfl, Nat.le_of_ble_eq_true rfl, Nat.le_of_ble_eq_true rfl, Nat.le_of_ble_eq_true rfl⟩ ?_
        refine S.nmi (fun x10 => ?_)
        refine S.istore_n [(3, .int x10), (0, .ref 48), (1, .int l1), (2, .int l2), (4, .int l4)] 25 rfl (by decide) rfl ?_
        refine S.iinc (l4 + 1) [(4, .int (l4 + 1)), (3, .int x10), (0, .ref 48), (1, .int l1), (2, .int l2)] 26 4 rfl rfl rfl (by decide) rfl ?_
        refine S.goto 10 27 rfl (by decide) ?_
        refine S.sub (lv' := [(0, .ref 48), (1, .int l1), (2, .int l2), (3, .int x10), (4, .int (l4 + 1))]) [2, 3, 4, 1, 0] rfl ?_
        exact ih _ _ _ _
def F_X7_leftAtWorst (l1 : Int32) (l2 : Int32) (I : HI) (J : HJ) : Option (Int32 × HI × HJ) :=
  lb (ui I x_suspects f_Suspects_groups (0 : Int32)) fun I3 =>
  F_X7_leftAtWorst_L10 l1 l2 bgf (0 : Int32) (0 : Int32) I3 J
set_option maxRecDepth 100000 in
theorem cm_X7_leftAtWorst (b : Bool) (l1 : Int32) (l2 : Int32) (I : HI) (J : HJ) : CM mX7_leftAtWorst 26 0 0 [.ref 48, .int l1, .int l2] (zs b, I, J) (fI (zs b)) (F_X7_leftAtWorst l1 l2 I J) := by
  refine S.of okX7_leftAtWorst pn_X7 (Nat.le_of_ble_eq_true rfl) ?_
  refine S.sub (lv' := [(0, .ref 48), (1, .int l1), (2, .int l2)]) [0, 1, 2] rfl ?_
  unfold F_X7_leftAtWorst
  refine S.aload_n 0 0 rfl rfl ?_
  refine S.iconst (0 : Int32) 1 rfl (by decide) ?_
  refine S.putI 2 rfl fo_X7_26 rfl rfl rfl rfl (fun _ hq => by cases hq; exact Or.inl rfl) (fun I3 => ?_)
  refine S.iconst (0 : Int32) 3 rfl (by decide) ?_
  refine S.istore_n [(3, .int (0 : Int32)), (0, .ref 48), (1, .int l1), (2, .int l2)] 4 rfl (by decide) rfl ?_
  refine S.iconst (0 : Int32) 5 rfl (by decide) ?_
  refine S.istore [(4, .int (0 : Int32)), (3, .int (0 : Int32)), (0, .ref 48), (1, .int l1), (2, .int l2)] 6 rfl (by decide) rfl ?_
  refine S.sub (lv' := [(0, .ref 48), (1, .int l1), (2, .int l2), (3, .int (0 : Int32)), (4, .int (0 : Int32))]) [2, 3, 4, 1, 0] rfl ?_
  refine s_X7_leftAtWorst_L10 b _ _ bgf _ _ _ _
def F_X7_secondOf (l1 : Int32) (I : HI) (J : HJ) : Option Int32 :=
  cp (F_X7_kindOf l1 I J) fun r1 =>
  if r1 = (2 : Int32) then
    cp (F_X7_firstOfPair l1 I J) fun r2 =>
    cp (F_X7_secondOfPair l1 r2 I J) fun r3 =>
    some r3
  else
    some (-1 : Int32)
set_option maxRecDepth 100000 in
theorem cm_X7_secondOf (b : Bool) (l1 : Int32) (I : HI) (J : HJ) : CM mX7_secondOf 4 0 0 [.ref 48, .int l1] (zs b, I, J) (pI (zs b, I, J)) (F_X7_secondOf l1 I J) := by
  refine S.of okX7_secondOf pn_X7 (Nat.le_of_ble_eq_true rfl) ?_
  refine S.sub (lv' := [(0, .ref 48), (1, .int l1)]) [0, 1] rfl ?_
  unfold F_X7_secondOf
  refine S.aload_n 0 0 rfl rfl ?_
  refine S.iload_n 1 1 rfl rfl ?_
  refine S.qVI (d := 3) (av := [.int l1]) (rs := [.int l1]) (b := 48) 2 rfl co_X7_70 rfl rfl rfl rfl rfl ⟨⟨Nat.le_of_ble_eq_true rfl, Nat.le_of_ble_eq_true rfl⟩, ⟨Nat.le_of_ble_eq_true rfl, Nat.le_of_ble_eq_true rfl⟩, Nat.le_of_ble_eq_true rfl⟩ (cm_X7_kindOf b l1 I J) (fun r1 => ?_)
  refine S.iconst (2 : Int32) 3 rfl (by decide) ?_
  refine S.icmp_ne 22 4 rfl (by decide) (fun _ => ?_) (fun _ => ?_)
  · refine S.iconst (-1 : Int32) 12 rfl (by decide) ?_
    exact S.iret 13 rfl rfl rfl (Nat.le_refl _) (Nat.le_refl _) rfl
  · refine S.aload_n 5 0 rfl rfl ?_
    refine S.iload_n 6 1 rfl rfl ?_
    refine S.aload_n 7 0 rfl rfl ?_
    refine S.iload_n 8 1 rfl rfl ?_
    refine S.qVI (d := 2) (av := [.int l1]) (rs := [.int l1]) (b := 48) 9 rfl co_X7_66 rfl rfl rfl rfl rfl ⟨⟨Nat.le_of_ble_eq_true rfl, Nat.le_of_ble_eq_true rfl⟩, ⟨Nat.le_of_ble_eq_true rfl, Nat.le_of_ble_eq_true rfl⟩, Nat.le_of_ble_eq_true rfl⟩ (cm_X7_firstOfPair b l1 I J) (fun r2 => ?_)
    refine S.qVI (d := 2) (av := [.int l1, .int r2]) (rs := [.int r2, .int l1]) (b := 48) 10 rfl co_X7_73 rfl rfl rfl rfl rfl ⟨⟨Nat.le_of_ble_eq_true rfl, Nat.le_of_ble_eq_true rfl⟩, ⟨Nat.le_of_ble_eq_true rfl, Nat.le_of_ble_eq_true rfl⟩, Nat.le_of_ble_eq_true rfl⟩ (cm_X7_secondOfPair b l1 r2 I J) (fun r3 => ?_)
    refine S.goto 23 11 rfl (by decide) ?_
    exact S.iret 13 rfl rfl rfl (Nat.le_refl _) (Nat.le_refl _) rfl

/-! computations and their proofs: X12 -/
def F_X12_thrown  (I : HI) (J : HJ) : Option Int32 :=
  some (I m_self f_Model_thrown)
set_option maxRecDepth 100000 in
theorem cm_X12_thrown (b : Bool)  (I : HI) (J : HJ) : CM mX12_thrown 1 0 0 [.ref 81] (zs b, I, J) (pI (zs b, I, J)) (F_X12_thrown  I J) := by
  refine S.of okX12_thrown pn_X12 (Nat.le_of_ble_eq_true rfl) ?_
  refine S.sub (lv' := [(0, .ref 81)]) [0] rfl ?_
  unfold F_X12_thrown
  refine S.aload_n 0 0 rfl rfl ?_
  refine S.getI 1 rfl fo_X12_159 rfl rfl ?_
  exact S.iret 2 rfl rfl rfl (Nat.le_refl _) (Nat.le_refl _) rfl
def F_X12_sign_L20 (l1 : Int32) (J : HJ) (kx53 : HI → Option (Int32 × HI × HJ)) : Nat → Int32 → HI → Option (Int32 × HI × HJ)
  | 0, _, _ => none
  | K+1, l2, I =>
    if l2 < 0 then
      kx53 I
    else
      lb (ui I m_self f_Model_typed ((I m_self f_Model_typed) + (1 : Int32))) fun I5 =>
      bx (I m_self f_Model_typed) 80 <|
      lb (ui I5 m_text (Int32.toNatClampNeg (I m_self f_Model_typed)) (vp_nar .byte (oi2b (oshr l1 ((8 : Int32) * l2))))) fun I6 =>
      F_X12_sign_L20 l1 J kx53 K (l2 + (-1)) I6
set_option maxRecDepth 100000 in
theorem s_X12_sign_L20 (b : Bool) (l1 : Int32) (J : HJ) (kx53 : HI → Option (Int32 × HI × HJ)) (hkx53 : ∀ (I1 : HI), S (fI (zs b)) mX12_sign (rmd 1 0 0) 0 0 (0, 0) 53 [(0, .ref 81)] [] (zs b, I1, J) (kx53 I1)) : ∀ (K : Nat) (l2 : Int32) (I : HI), S (fI (zs b)) mX12_sign (rmd 1 0 0) 0 0 (0, 0) 20 [(0, .ref 81), (1, .int l1), (2, .int l2)] [] (zs b, I, J) (F_X12_sign_L20 l1 J kx53 K l2 I) := by
  intro K
  induction K with
  | zero => intro l2 I; exact S.none
  | succ K ih =>
    intro l2 I
    rw [F_X12_sign_L20]
    refine S.iload_n 13 2 rfl rfl ?_
    refine S.if_lt 53 14 rfl (by decide) (fun _ => ?_) (fun _ => ?_)
    · refine S.sub (lv' := [(0, .ref 81)]) [0] rfl ?_
      exact hkx53 _
    · refine S.aload_n 15 0 rfl rfl ?_
      refine S.getR 16 rfl fo_X12_29 rfl rfl rfl ?_
      refine S.aload_n 17 0 rfl rfl ?_
      refine S.dup 18 rfl rfl ?_
      refine S.getI 19 rfl fo_X12_172 rfl rfl ?_
      refine S.dup_x1 20 rfl rfl rfl ?_
      refine S.iconst (1 : Int32) 21 rfl (by decide) ?_
      refine S.iadd 22 rfl ?_
      refine S.putI 23 rfl fo_X12_172 rfl rfl rfl rfl (fun _ hq => by cases hq; exact Or.inl rfl) (fun I5 => ?_)
      refine S.iload_n 24 1 rfl rfl ?_
      refine S.bipush (8 : Int32) 25 rfl (by decide) ?_
      refine S.iload_n 26 2 rfl rfl ?_
      refine S.imul 27 rfl ?_
      refine S.ishr 28 rfl ?_
      refine S.i2b 29 rfl ?_
      refine S.bast 30 rfl rfl (fun I6 => ?_)
      refine S.iinc (l2 + (-1)) [(2, .int (l2 + (-1))), (0, .ref 81), (1, .int l1)] 31 2 rfl rfl rfl (by decide) rfl ?_
      refine S.goto 20 32 rfl (by decide) ?_
      refine S.sub (lv' := [(0, .ref 81), (1, .int l1), (2, .int (l2 + (-1)))]) [1, 2, 0] rfl ?_
      exact ih _ _
def F_X12_sign (l1 : Int32) (I : HI) (J : HJ) : Option (Int32 × HI × HJ) :=
  lb (ui I m_self f_Model_thrown (0 : Int32)) fun I4 =>
  if ((I4 m_self f_Model_typed) + (4 : Int32)) ≤ (80 : Int32) then
    F_X12_sign_L20 l1 J (fun (I7 : HI) =>
    some ((I7 m_self f_Model_typed), I7, J)) bgf (3 : Int32) I4
  else
    some ((-1 : Int32), I4, J)
set_option maxRecDepth 100000 in
theorem cm_X12_sign (b : Bool) (l1 : Int32) (I : HI) (J : HJ) : CM mX12_sign 1 0 0 [.ref 81, .int l1] (zs b, I, J) (fI (zs b)) (F_X12_sign l1 I J) := by
  refine S.of okX12_sign pn_X12 (Nat.le_of_ble_eq_true rfl) ?_
  refine S.sub (lv' := [(0, .ref 81), (1, .int l1)]) [0, 1] rfl ?_
  unfold F_X12_sign
  refine S.aload_n 0 0 rfl rfl ?_
  refine S.iconst (0 : Int32) 1 rfl (by decide) ?_
  refine S.putI 2 rfl fo_X12_159 rfl rfl rfl rfl (fun _ hq => by cases hq; exact Or.inl rfl) (fun I4 => ?_)
  refine S.aload_n 3 0 rfl rfl ?_
  refine S.getI 4 rfl fo_X12_172 rfl rfl ?_
  refine S.iconst (4 : Int32) 5 rfl (by decide) ?_
  refine S.iadd 6 rfl ?_
  refine S.bipush (80 : Int32) 7 rfl (by decide) ?_
  refine S.icmp_le 18 8 rfl (by decide) (fun _ => ?_) (fun _ => ?_)
  · refine S.iconst (3 : Int32) 11 rfl (by decide) ?_
    refine S.istore_n [(2, .int (3 : Int32)), (0, .ref 81), (1, .int l1)] 12 rfl (by decide) rfl ?_
    refine S.sub (lv' := [(0, .ref 81), (1, .int l1), (2, .int (3 : Int32))]) [1, 2, 0] rfl ?_
    refine s_X12_sign_L20 b _ _ _ (fun I7 => ?_) bgf _ _
    refine S.aload_n 33 0 rfl rfl ?_
    refine S.getI 34 rfl fo_X12_172 rfl rfl ?_
    exact S.iret 35 rfl rfl rfl (Nat.le_refl _) (Nat.le_refl _) rfl
  · refine S.iconst (-1 : Int32) 9 rfl (by decide) ?_
    exact S.iret 10 rfl rfl rfl (Nat.le_refl _) (Nat.le_refl _) rfl
def F_X12_in (l0 : Int64) (l2 : Int64) (l4 : Int64) : Option Int32 :=
  if (lg_cmp l0 l2) < 0 then
    some (0 : Int32)
  else
    if 0 < (lg_cmp l0 l4) then
      some (0 : Int32)
    else
      some (1 : Int32)
set_option maxRecDepth 100000 in
theorem cm_X12_in (h : Hp) (l0 : Int64) (l2 : Int64) (l4 : Int64) : CM mX12_in 1 0 0 [.long l0, .long l2, .long l4] h (pI h) (F_X12_in l0 l2 l4) := by
  refine S.of okX12_in pn_X12 (Nat.le_of_ble_eq_true rfl) ?_
  refine S.sub (lv' := [(0, .long l0), (2, .long l2), (4, .long l4)]) [0, 1, 2] rfl ?_
  unfold F_X12_in
  refine S.lload_n 0 0 rfl rfl ?_
  refine S.lload_n 1 1 rfl rfl ?_
  refine S.lcmp 2 rfl ?_
  refine S.if_lt 17 3 rfl (by decide) (fun _ => ?_) (fun _ => ?_)
  · refine S.iconst (0 : Int32) 10 rfl (by decide) ?_
    exact S.iret 11 rfl rfl rfl (Nat.le_refl _) (Nat.le_refl _) rfl
  · refine S.lload_n 4 0 rfl rfl ?_
    refine S.lload 5 2 rfl rfl ?_
    refine S.lcmp 6 rfl ?_
    refine S.if_gt 17 7 rfl (by decide) (fun _ => ?_) (fun _ => ?_)
    · refine S.iconst (0 : Int32) 10 rfl (by decide) ?_
      exact S.iret 11 rfl rfl rfl (Nat.le_refl _) (Nat.le_refl _) rfl
    · refine S.iconst (1 : Int32) 8 rfl (by decide) ?_
      refine S.goto 18 9 rfl (by decide) ?_
      exact S.iret 11 rfl rfl rfl (Nat.le_refl _) (Nat.le_refl _) rfl
def F_X12_end (l1 : Int32) (I : HI) (J : HJ) : Option (Int32 × HI × HJ) :=
  lb (ui I m_self f_Model_thrown (0 : Int32)) fun I3 =>
  cp (F_X12_in (Int32.toInt64 l1) (0 : Int64) (Int32.toInt64 (I3 m_self f_Model_typed))) fun r4 =>
  if r4 = 0 then
    some ((0 : Int32), I3, J)
  else
    lb (ui I3 m_self f_Model_typed l1) fun I5 =>
    some ((1 : Int32), I5, J)
set_option maxRecDepth 100000 in
theorem cm_X12_end (b : Bool) (l1 : Int32) (I : HI) (J : HJ) : CM mX12_end 2 0 0 [.ref 81, .int l1] (zs b, I, J) (fI (zs b)) (F_X12_end l1 I J) := by
  refine S.of okX12_end pn_X12 (Nat.le_of_ble_eq_true rfl) ?_
  refine S.sub (lv' := [(0, .ref 81), (1, .int l1)]) [0, 1] rfl ?_
  unfold F_X12_end
  refine S.aload_n 0 0 rfl rfl ?_
  refine S.iconst (0 : Int32) 1 rfl (by decide) ?_
  refine S.putI 2 rfl fo_X12_159 rfl rfl rfl rfl (fun _ hq => by cases hq; exact Or.inl rfl) (fun I3 => ?_)
  refine S.iload_n 3 1 rfl rfl ?_
  refine S.i2l 4 rfl ?_
  refine S.lconst (0 : Int64) 5 rfl (by decide) ?_
  refine S.aload_n 6 0 rfl rfl ?_
  refine S.getI 7 rfl fo_X12_172 rfl rfl ?_
  refine S.i2l 8 rfl ?_
  refine S.qSI (d := 1) (av := [.long (Int32.toInt64 l1), .long (0 : Int64), .long (Int32.toInt64 (I3 m_self f_Model_typed))]) (rs := [.long (Int32.toInt64 (I3 m_self f_Model_typed)), .long (0 : Int64), .long (Int32.toInt64 l1)]) 9 rfl co_X12_165 rfl rfl ⟨⟨Nat.le_of_ble_eq_true rfl, Nat.le_of_ble_eq_true rfl⟩, ⟨Nat.le_of_ble_eq_true rfl, Nat.le_of_ble_eq_true rfl⟩, Nat.le_of_ble_eq_true rfl⟩ (cm_X12_in (zs b, I3, J) (Int32.toInt64 l1) (0 : Int64) (Int32.toInt64 (I3 m_self f_Model_typed))) (fun r4 => ?_)
  refine S.if_ne 21 10 rfl (by decide) (fun _ => ?_) (fun _ => ?_)
  · refine S.aload_n 13 0 rfl rfl ?_
    refine S.iload_n 14 1 rfl rfl ?_
    refine S.putI 15 rfl fo_X12_172 rfl rfl rfl rfl (fun _ hq => by cases hq; exact Or.inl rfl) (fun I5 => ?_)
    refine S.iconst (1 : Int32) 16 rfl (by decide) ?_
    exact S.iret 17 rfl rfl rfl (Nat.le_refl _) (Nat.le_refl _) rfl
  · refine S.iconst (0 : Int32) 11 rfl (by decide) ?_
    exact S.iret 12 rfl rfl rfl (Nat.le_refl _) (Nat.le_refl _) rfl
def F_X12_fault (l1 : Int32) (I : HI) (J : HJ) : Option (Unit × HI × HJ) :=
  if (I m_self f_Model_wrong) = (-1 : Int32) then
    lb (ui I m_self f_Model_wrong l1) fun I2 =>
    some ((), I2, J)
  else
    some ((), I, J)
set_option maxRecDepth 100000 in
theorem cm_X12_fault (b : Bool) (l1 : Int32) (I : HI) (J : HJ) : CM mX12_fault 1 0 0 [.ref 81, .int l1] (zs b, I, J) (fV (zs b)) (F_X12_fault l1 I J) := by
  refine S.of okX12_fault pn_X12 (Nat.le_of_ble_eq_true rfl) ?_
  refine S.sub (lv' := [(0, .ref 81), (1, .int l1)]) [0, 1] rfl ?_
  unfold F_X12_fault
  refine S.aload_n 0 0 rfl rfl ?_
  refine S.getI 1 rfl fo_X12_181 rfl rfl ?_
  refine S.iconst (-1 : Int32) 2 rfl (by decide) ?_
  refine S.icmp_ne 13 3 rfl (by decide) (fun _ => ?_) (fun _ => ?_)
  · exact S.vret 7 rfl rfl (Nat.le_refl _) (Nat.le_refl _) rfl
  · refine S.aload_n 4 0 rfl rfl ?_
    refine S.iload_n 5 1 rfl rfl ?_
    refine S.putI 6 rfl fo_X12_181 rfl rfl rfl rfl (fun _ hq => by cases hq; exact Or.inl rfl) (fun I2 => ?_)
    exact S.vret 7 rfl rfl (Nat.le_refl _) (Nat.le_refl _) rfl
def F_X12_here  (I : HI) (J : HJ) : Option Int32 :=
  if (I m_self f_Model_size) ≤ (I m_self f_Model_at) then
    some (-1 : Int32)
  else
    if (76 : Int32) ≤ (I m_self f_Model_at) then
      some (-1 : Int32)
    else
      bx (I m_self f_Model_at) 80 <|
      some (I m_text (Int32.toNatClampNeg (I m_self f_Model_at)))
set_option maxRecDepth 100000 in
theorem cm_X12_here (b : Bool)  (I : HI) (J : HJ) : CM mX12_here 1 0 0 [.ref 81] (zs b, I, J) (pI (zs b, I, J)) (F_X12_here  I J) := by
  refine S.of okX12_here pn_X12 (Nat.le_of_ble_eq_true rfl) ?_
  refine S.sub (lv' := [(0, .ref 81)]) [0] rfl ?_
  unfold F_X12_here
  refine S.aload_n 0 0 rfl rfl ?_
  refine S.getI 1 rfl fo_X12_175 rfl rfl ?_
  refine S.aload_n 2 0 rfl rfl ?_
  refine S.getI 3 rfl fo_X12_178 rfl rfl ?_
  refine S.icmp_ge 32 4 rfl (by decide) (fun _ => ?_) (fun _ => ?_)
  · refine S.iconst (-1 : Int32) 15 rfl (by decide) ?_
    exact S.iret 16 rfl rfl rfl (Nat.le_refl _) (Nat.le_refl _) rfl
  · refine S.aload_n 5 0 rfl rfl ?_
    refine S.getI 6 rfl fo_X12_175 rfl rfl ?_
    refine S.bipush (76 : Int32) 7 rfl (by decide) ?_
    refine S.icmp_ge 32 8 rfl (by decide) (fun _ => ?_) (fun _ => ?_)
    · refine S.iconst (-1 : Int32) 15 rfl (by decide) ?_
      exact S.iret 16 rfl rfl rfl (Nat.le_refl _) (Nat.le_refl _) rfl
    · refine S.aload_n 9 0 rfl rfl ?_
      refine S.getR 10 rfl fo_X12_29 rfl rfl rfl ?_
      refine S.aload_n 11 0 rfl rfl ?_
      refine S.getI 12 rfl fo_X12_175 rfl rfl ?_
      refine S.bald 13 rfl rfl ?_
      refine S.goto 33 14 rfl (by decide) ?_
      exact S.iret 16 rfl rfl rfl (Nat.le_refl _) (Nat.le_refl _) rfl
def F_X12_passes (l1 : Int32) (I : HI) (J : HJ) : Option (Int32 × HI × HJ) :=
  if (I m_self f_Model_wrong) = (-1 : Int32) then
    cp (F_X12_here I J) fun r2 =>
    if r2 = l1 then
      lb (ui I m_self f_Model_at ((I m_self f_Model_at) + (1 : Int32))) fun I3 =>
      some ((1 : Int32), I3, J)
    else
      some ((0 : Int32), I, J)
  else
    some ((0 : Int32), I, J)
set_option maxRecDepth 100000 in
theorem cm_X12_passes (b : Bool) (l1 : Int32) (I : HI) (J : HJ) : CM mX12_passes 2 0 0 [.ref 81, .int l1] (zs b, I, J) (fI (zs b)) (F_X12_passes l1 I J) := by
  refine S.of okX12_passes pn_X12 (Nat.le_of_ble_eq_true rfl) ?_
  refine S.sub (lv' := [(0, .ref 81), (1, .int l1)]) [0, 1] rfl ?_
  unfold F_X12_passes
  refine S.aload_n 0 0 rfl rfl ?_
  refine S.getI 1 rfl fo_X12_181 rfl rfl ?_
  refine S.iconst (-1 : Int32) 2 rfl (by decide) ?_
  refine S.icmp_ne 16 3 rfl (by decide) (fun _ => ?_) (fun _ => ?_)
  · refine S.iconst (0 : Int32) 8 rfl (by decide) ?_
    exact S.iret 9 rfl rfl rfl (Nat.le_refl _) (Nat.le_refl _) rfl
  · refine S.aload_n 4 0 rfl rfl ?_
    refine S.qVI (d := 1) (av := []) (rs := []) (b := 81) 5 rfl co_X12_184 rfl rfl rfl rfl rfl ⟨⟨Nat.le_of_ble_eq_true rfl, Nat.le_of_ble_eq_true rfl⟩, ⟨Nat.le_of_ble_eq_true rfl, Nat.le_of_ble_eq_true rfl⟩, Nat.le_of_ble_eq_true rfl⟩ (cm_X12_here b I J) (fun r2 => ?_)
    refine S.iload_n 6 1 rfl rfl ?_
    refine S.icmp_eq 18 7 rfl (by decide) (fun _ => ?_) (fun _ => ?_)
    · refine S.aload_n 10 0 rfl rfl ?_
      refine S.dup 11 rfl rfl ?_
      refine S.getI 12 rfl fo_X12_175 rfl rfl ?_
      refine S.iconst (1 : Int32) 13 rfl (by decide) ?_
      refine S.iadd 14 rfl ?_
      refine S.putI 15 rfl fo_X12_175 rfl rfl rfl rfl (fun _ hq => by cases hq; exact Or.inl rfl) (fun I3 => ?_)
      refine S.iconst (1 : Int32) 16 rfl (by decide) ?_
      exact S.iret 17 rfl rfl rfl (Nat.le_refl _) (Nat.le_refl _) rfl
    · refine S.iconst (0 : Int32) 8 rfl (by decide) ?_
      exact S.iret 9 rfl rfl rfl (Nat.le_refl _) (Nat.le_refl _) rfl
def F_X12_number_L19 (l1 : Int32) (l2 : Int32) (l3 : Int32) (l4 : Int32) (J : HJ) (kx75 : Int32 → HI → Option (Int32 × HI × HJ)) : Nat → Int32 → HI → Option (Int32 × HI × HJ)
  | 0, _, _ => none
  | K+1, l5, I =>
    if (l4 + l1) ≤ (I m_self f_Model_at) then
      kx75 l5 I
    else
      cp (F_X12_here I J) fun r5 =>
      cp (F_X12_in (Int32.toInt64 r5) (48 : Int64) (57 : Int64)) fun r6 =>
      if r6 = 0 then
        kx75 l5 I
      else
        cp (F_X12_here I J) fun r7 =>
        lb (((((10 : Int32) * l5) + r7) - (48 : Int32))) fun x8 =>
        lb (ui I m_self f_Model_at ((I m_self f_Model_at) + (1 : Int32))) fun I9 =>
        F_X12_number_L19 l1 l2 l3 l4 J kx75 K x8 I9
set_option maxRecDepth 100000 in
theorem s_X12_number_L19 (b : Bool) (l1 : Int32) (l2 : Int32) (l3 : Int32) (l4 : Int32) (J : HJ) (kx75 : Int32 → HI → Option (Int32 × HI × HJ)) (hkx75 : ∀ (y5 : Int32) (I1 : HI), S (fI (zs b)) mX12_number (rmd 2 0 0) 0 0 (0, 0) 75 [(0, .ref 81), (2, .int l2), (3, .int l3), (4, .int l4), (5, .int y5)] [] (zs b, I1, J) (kx75 y5 I1)) : ∀ (K : Nat) (l5 : Int32) (I : HI), S (fI (zs b)) mX12_number (rmd 2 0 0) 0 0 (0, 0) 19 [(0, .ref 81), (1, .int l1), (2, .int l2), (3, .int l3), (4, .int l4), (5, .int l5)] [] (zs b, I, J) (F_X12_number_L19 l1 l2 l3 l4 J kx75 K l5 I) := by
  intro K
  induction K with
  | zero => intro l5 I; exact S.none
  | succ K ih =>
    intro l5 I
    rw [F_X12_number_L19]
    refine S.aload_n 11 0 rfl rfl ?_
    refine S.getI 12 rfl fo_X12_175 rfl rfl ?_
    refine S.iload 13 4 rfl rfl ?_
    refine S.iload_n 14 1 rfl rfl ?_
    refine S.iadd 15 rfl ?_
    refine S.icmp_ge 75 16 rfl (by decide) (fun _ => ?_) (fun _ => ?_)
    · refine S.sub (lv' := [(0, .ref 81), (2, .int l2), (3, .int l3), (4, .int l4), (5, .int l5)]) [0, 2, 3, 4, 5] rfl ?_
      exact hkx75 _ _
    · refine S.aload_n 17 0 rfl rfl ?_
      refine S.qVI (d := 1) (av := []) (rs := []) (b := 81) 18 rfl co_X12_184 rfl rfl rfl rfl rfl ⟨⟨Nat.le_of_ble_eq_true rfl, Nat.le_of_ble_eq_true rfl⟩, ⟨Nat.le_of_ble_eq_true rfl, Nat.le_of_ble_eq_true rfl⟩, Nat.le_of_ble_eq_true rfl⟩ (cm_X12_here b I J) (fun r5 => ?_)
      refine S.i2l 19 rfl ?_
      refine S.ldc2 (48 : Int64) 20 rfl ko_X12_196 ?_
      refine S.ldc2 (57 : Int64) 21 rfl ko_X12_198 ?_
      refine S.qSI (d := 1) (av := [.long (Int32.toInt64 r5), .long (48 : Int64), .long (57 : Int64)]) (rs := [.long (57 : Int64), .long (48 : Int64), .long (Int32.toInt64 r5)]) 22 rfl co_X12_165 rfl rfl ⟨⟨Nat.le_of_ble_eq_true rfl, Nat.le_of_ble_eq_true rfl⟩, ⟨Nat.le_of_ble_eq_true rfl, Nat.le_of_ble_eq_true rfl⟩, Nat.le_of_ble_eq_true rfl⟩ (cm_X12_in (zs b, I, J) (Int32.toInt64 r5) (48 : Int64) (57 : Int64)) (fun r6 => ?_)
      refine S.if_eq 75 23 rfl (by decide) (fun _ => ?_) (fun _ => ?_)
      · refine S.sub (lv' := [(0, .ref 81), (2, .int l2), (3, .int l3), (4, .int l4), (5, .int l5)]) [0, 2, 3, 4, 5] rfl ?_
        exact hkx75 _ _
      · refine S.bipush (10 : Int32) 24 rfl (by decide) ?_
        refine S.iload 25 5 rfl rfl ?_
        refine S.imul 26 rfl ?_
        refine S.aload_n 27 0 rfl rfl ?_
        refine S.qVI (d := 1) (av := []) (rs := []) (b := 81) 28 rfl co_X12_184 rfl rfl rfl rfl rfl ⟨⟨Nat.le_of_ble_eq_true rfl, Nat.le_of_ble_eq_true rfl⟩, ⟨Nat.le_of_ble_eq_true rfl, Nat.le_of_ble_eq_true rfl⟩, Nat.le_of_ble_eq_true rfl⟩ (cm_X12_here b I J) (fun r7 => ?_)
        refine S.iadd 29 rfl ?_
        refine S.bipush (48 : Int32) 30 rfl (by decide) ?_
        refine S.isub 31 rfl ?_
        refine S.nmi (fun x8 => ?_)
        refine S.istore [(5, .int x8), (0, .ref 81), (1, .int l1), (2, .int l2), (3, .int l3), (4, .int l4)] 32 rfl (by decide) rfl ?_
        refine S.aload_n 33 1 rfl rfl ?_
        refine S.dup 34 rfl rfl ?_
        refine S.getI 35 rfl fo_X12_175 rfl rfl ?_
        refine S.iconst (1 : Int32) 36 rfl (by decide) ?_
        refine S.iadd 37 rfl ?_
        refine S.putI 38 rfl fo_X12_175 rfl rfl rfl rfl (fun _ hq => by cases hq; exact Or.inl rfl) (fun I9 => ?_)
        refine S.goto 19 39 rfl (by decide) ?_
        refine S.sub (lv' := [(0, .ref 81), (1, .int l1), (2, .int l2), (3, .int l3), (4, .int l4), (5, .int x8)]) [1, 2, 3, 4, 5, 0] rfl ?_
        exact ih _ _
def F_X12_number (l1 : Int32) (l2 : Int32) (l3 : Int32) (I : HI) (J : HJ) : Option (Int32 × HI × HJ) :=
  if (I m_self f_Model_wrong) = (-1 : Int32) then
    lb ((I m_self f_Model_at)) fun x4 =>
    F_X12_number_L19 l1 l2 l3 x4 J (fun (y10 : Int32) (I11 : HI) =>
    lb (fun (I12 : HI) (J13 : HJ) =>
    if (I12 m_self f_Model_wrong) = (-1 : Int32) then
      some (y10, I12, J13)
    else
      some ((0 : Int32), I12, J13)) fun j14 =>
    if (I11 m_self f_Model_at) = x4 then
      cl (F_X12_fault (I11 m_self f_Model_at) I11 J) fun _ I18 J19 =>
      j14 I18 J19
    else
      cp (F_X12_in (Int32.toInt64 y10) (Int32.toInt64 l2) (Int32.toInt64 l3)) fun r15 =>
      if r15 = 0 then
        cl (F_X12_fault ((I11 m_self f_Model_at) - (1 : Int32)) I11 J) fun _ I16 J17 =>
        j14 I16 J17
      else
        j14 I11 J) bgf (0 : Int32) I
  else
    some ((0 : Int32), I, J)
set_option maxRecDepth 100000 in
theorem cm_X12_number (b : Bool) (l1 : Int32) (l2 : Int32) (l3 : Int32) (I : HI) (J : HJ) : CM mX12_number 2 0 0 [.ref 81, .int l1, .int l2, .int l3] (zs b, I, J) (fI (zs b)) (F_X12_number l1 l2 l3 I J) := by
  refine S.of okX12_number pn_X12 (Nat.le_of_ble_eq_true rfl) ?_
  refine S.sub (lv' := [(0, .ref 81), (1, .int l1), (2, .int l2), (3, .int l3)]) [0, 1, 2, 3] rfl ?_
  unfold F_X12_number
  refine S.aload_n 0 0 rfl rfl ?_
  refine S.getI 1 rfl fo_X12_181 rfl rfl ?_
  refine S.iconst (-1 : Int32) 2 rfl (by decide) ?_
  refine S.icmp_eq 10 3 rfl (by decide) (fun _ => ?_) (fun _ => ?_)
  · refine S.aload_n 6 0 rfl rfl ?_
    refine S.getI 7 rfl fo_X12_175 rfl rfl ?_
    refine S.nmi (fun x4 => ?_)
    refine S.istore [(4, .int x4), (0, .ref 81), (1, .int l1), (2, .int l2), (3, .int l3)] 8 rfl (by decide) rfl ?_
    refine S.iconst (0 : Int32) 9 rfl (by decide) ?_
    refine S.istore [(5, .int (0 : Int32)), (4, .int x4), (0, .ref 81), (1, .int l1), (2, .int l2), (3, .int l3)] 10 rfl (by decide) rfl ?_
    refine S.sub (lv' := [(0, .ref 81), (1, .int l1), (2, .int l2), (3, .int l3), (4, .int x4), (5, .int (0 : Int32))]) [2, 3, 4, 5, 1, 0] rfl ?_
    refine s_X12_number_L19 b _ _ _ _ _ _ (fun y10 I11 => ?_) bgf _ _
    refine S.aload_n 40 0 rfl rfl ?_
    refine S.getI 41 rfl fo_X12_175 rfl rfl ?_
    refine S.iload 42 3 rfl rfl ?_
    refine S.jn (fun j => ∀ (I12 : HI) (J13 : HJ), S (fI (zs b)) mX12_number (rmd 2 0 0) 0 0 (0, 0) 118 [(0, .ref 81), (5, .int y10)] [] (zs b, I12, J13) (j I12 J13)) (fun I12 J13 => ?_) (fun j14 hj14 => ?_)
    · refine S.aload_n 63 0 rfl rfl ?_
      refine S.getI 64 rfl fo_X12_181 rfl rfl ?_
      refine S.iconst (-1 : Int32) 65 rfl (by decide) ?_
      refine S.icmp_ne 131 66 rfl (by decide) (fun _ => ?_) (fun _ => ?_)
      · refine S.iconst (0 : Int32) 69 rfl (by decide) ?_
        exact S.iret 70 rfl rfl rfl (Nat.le_refl _) (Nat.le_refl _) rfl
      · refine S.iload 67 1 rfl rfl ?_
        refine S.goto 132 68 rfl (by decide) ?_
        exact S.iret 70 rfl rfl rfl (Nat.le_refl _) (Nat.le_refl _) rfl
    · refine S.icmp_ne 95 43 rfl (by decide) (fun _ => ?_) (fun _ => ?_)
      · refine S.iload 49 4 rfl rfl ?_
        refine S.i2l 50 rfl ?_
        refine S.iload_n 51 1 rfl rfl ?_
        refine S.i2l 52 rfl ?_
        refine S.iload_n 53 2 rfl rfl ?_
        refine S.i2l 54 rfl ?_
        refine S.qSI (d := 1) (av := [.long (Int32.toInt64 y10), .long (Int32.toInt64 l2), .long (Int32.toInt64 l3)]) (rs := [.long (Int32.toInt64 l3), .long (Int32.toInt64 l2), .long (Int32.toInt64 y10)]) 55 rfl co_X12_165 rfl rfl ⟨⟨Nat.le_of_ble_eq_true rfl, Nat.le_of_ble_eq_true rfl⟩, ⟨Nat.le_of_ble_eq_true rfl, Nat.le_of_ble_eq_true rfl⟩, Nat.le_of_ble_eq_true rfl⟩ (cm_X12_in (zs b, I11, J) (Int32.toInt64 y10) (Int32.toInt64 l2) (Int32.toInt64 l3)) (fun r15 => ?_)
        refine S.if_ne 118 56 rfl (by decide) (fun _ => ?_) (fun _ => ?_)
        · refine S.sub (lv' := [(0, .ref 81), (5, .int y10)]) [0, 4] rfl ?_
          exact hj14 _ _
        · refine S.aload_n 57 0 rfl rfl ?_
          refine S.aload_n 58 0 rfl rfl ?_
          refine S.getI 59 rfl fo_X12_175 rfl rfl ?_
          refine S.iconst (1 : Int32) 60 rfl (by decide) ?_
          refine S.isub 61 rfl ?_
          refine S.cVV (d := 1) (av := [.int ((I11 m_self f_Model_at) - (1 : Int32))]) (rs := [.int ((I11 m_self f_Model_at) - (1 : Int32))]) (b := 81) 62 rfl co_X12_192 rfl rfl rfl rfl rfl ⟨⟨Nat.le_of_ble_eq_true rfl, Nat.le_of_ble_eq_true rfl⟩, ⟨Nat.le_of_ble_eq_true rfl, Nat.le_of_ble_eq_true rfl⟩, Nat.le_of_ble_eq_true rfl⟩ (cm_X12_fault b ((I11 m_self f_Model_at) - (1 : Int32)) I11 J) (fun _ I16 J17 => ?_)
          refine S.sub (lv' := [(0, .ref 81), (5, .int y10)]) [0, 4] rfl ?_
          exact hj14 _ _
      · refine S.aload_n 44 0 rfl rfl ?_
        refine S.aload_n 45 0 rfl rfl ?_
        refine S.getI 46 rfl fo_X12_175 rfl rfl ?_
        refine S.cVV (d := 1) (av := [.int (I11 m_self f_Model_at)]) (rs := [.int (I11 m_self f_Model_at)]) (b := 81) 47 rfl co_X12_192 rfl rfl rfl rfl rfl ⟨⟨Nat.le_of_ble_eq_true rfl, Nat.le_of_ble_eq_true rfl⟩, ⟨Nat.le_of_ble_eq_true rfl, Nat.le_of_ble_eq_true rfl⟩, Nat.le_of_ble_eq_true rfl⟩ (cm_X12_fault b (I11 m_self f_Model_at) I11 J) (fun _ I18 J19 => ?_)
        refine S.goto 118 48 rfl (by decide) ?_
        refine S.sub (lv' := [(0, .ref 81), (5, .int y10)]) [0, 4] rfl ?_
        exact hj14 _ _
  · refine S.iconst (0 : Int32) 4 rfl (by decide) ?_
    exact S.iret 5 rfl rfl rfl (Nat.le_refl _) (Nat.le_refl _) rfl
def F_X12_need (l1 : Int32) (I : HI) (J : HJ) : Option (Unit × HI × HJ) :=
  cl (F_X12_passes l1 I J) fun r1 I2 J3 =>
  if r1 = 0 then
    cl (F_X12_fault (I2 m_self f_Model_at) I2 J3) fun _ I4 J5 =>
    some ((), I4, J5)
  else
    some ((), I2, J3)
set_option maxRecDepth 100000 in
theorem cm_X12_need (b : Bool) (l1 : Int32) (I : HI) (J : HJ) : CM mX12_need 3 0 0 [.ref 81, .int l1] (zs b, I, J) (fV (zs b)) (F_X12_need l1 I J) := by
  refine S.of okX12_need pn_X12 (Nat.le_of_ble_eq_true rfl) ?_
  refine S.sub (lv' := [(0, .ref 81), (1, .int l1)]) [0, 1] rfl ?_
  unfold F_X12_need
  refine S.aload_n 0 0 rfl rfl ?_
  refine S.iload_n 1 1 rfl rfl ?_
  refine S.cVI (d := 2) (av := [.int l1]) (rs := [.int l1]) (b := 81) 2 rfl co_X12_188 rfl rfl rfl rfl rfl ⟨⟨Nat.le_of_ble_eq_true rfl, Nat.le_of_ble_eq_true rfl⟩, ⟨Nat.le_of_ble_eq_true rfl, Nat.le_of_ble_eq_true rfl⟩, Nat.le_of_ble_eq_true rfl⟩ (cm_X12_passes b l1 I J) (fun r1 I2 J3 => ?_)
  refine S.if_ne 16 3 rfl (by decide) (fun _ => ?_) (fun _ => ?_)
  · exact S.vret 8 rfl rfl (Nat.le_refl _) (Nat.le_refl _) rfl
  · refine S.aload_n 4 0 rfl rfl ?_
    refine S.aload_n 5 0 rfl rfl ?_
    refine S.getI 6 rfl fo_X12_175 rfl rfl ?_
    refine S.cVV (d := 1) (av := [.int (I2 m_self f_Model_at)]) (rs := [.int (I2 m_self f_Model_at)]) (b := 81) 7 rfl co_X12_192 rfl rfl rfl rfl rfl ⟨⟨Nat.le_of_ble_eq_true rfl, Nat.le_of_ble_eq_true rfl⟩, ⟨Nat.le_of_ble_eq_true rfl, Nat.le_of_ble_eq_true rfl⟩, Nat.le_of_ble_eq_true rfl⟩ (cm_X12_fault b (I2 m_self f_Model_at) I2 J3) (fun _ I4 J5 => ?_)
    exact S.vret 8 rfl rfl (Nat.le_refl _) (Nat.le_refl _) rfl
def F_X12_take_L147 (I : HI) (kx165 : HJ → Option (Unit × HI × HJ)) : Nat → Int32 → HJ → Option (Unit × HI × HJ)
  | 0, _, _ => none
  | K+1, l2, J =>
    if (4 : Int32) ≤ l2 then
      kx165 J
    else
      bx l2 4 <|
      lb (uj J m_pictures (Int32.toNatClampNeg l2) (0 : Int64)) fun J20 =>
      F_X12_take_L147 I kx165 K (l2 + 1) J20
set_option maxRecDepth 100000 in
theorem s_X12_take_L147 (b : Bool) (I : HI) (kx165 : HJ → Option (Unit × HI × HJ)) (hkx165 : ∀ (J1 : HJ), S (fV (zs b)) mX12_take (rmd 1 0 0) 0 0 (0, 0) 165 [(0, .ref 81)] [] (zs b, I, J1) (kx165 J1)) : ∀ (K : Nat) (l2 : Int32) (J : HJ), S (fV (zs b)) mX12_take (rmd 1 0 0) 0 0 (0, 0) 147 [(0, .ref 81), (2, .int l2)] [] (zs b, I, J) (F_X12_take_L147 I kx165 K l2 J) := by
  intro K
  induction K with
  | zero => intro l2 J; exact S.none
  | succ K ih =>
    intro l2 J
    rw [F_X12_take_L147]
    refine S.iload_n 93 1 rfl rfl ?_
    refine S.iconst (4 : Int32) 94 rfl (by decide) ?_
    refine S.icmp_ge 165 95 rfl (by decide) (fun _ => ?_) (fun _ => ?_)
    · refine S.sub (lv' := [(0, .ref 81)]) [0] rfl ?_
      exact hkx165 _
    · refine S.aload_n 96 0 rfl rfl ?_
      refine S.getR 97 rfl fo_X12_77 rfl rfl rfl ?_
      refine S.iload_n 98 1 rfl rfl ?_
      refine S.lconst (0 : Int64) 99 rfl (by decide) ?_
      refine S.last 100 rfl rfl (fun J20 => ?_)
      refine S.iinc (l2 + 1) [(2, .int (l2 + 1)), (0, .ref 81)] 101 1 rfl rfl rfl (by decide) rfl ?_
      refine S.goto 147 102 rfl (by decide) ?_
      refine S.sub (lv' := [(0, .ref 81), (2, .int (l2 + 1))]) [1, 0] rfl ?_
      exact ih _ _
def F_X12_take (l1 : Int32) (I : HI) (J : HJ) : Option (Unit × HI × HJ) :=
  bx l1 320 <|
  if (I m_line (Int32.toNatClampNeg l1)) = (1 : Int32) then
    bx (l1 + (1 : Int32)) 320 <|
    bx (l1 + (2 : Int32)) 320 <|
    bx (I m_line (Int32.toNatClampNeg (l1 + (1 : Int32)))) 10 <|
    lb (ui I m_ohm (Int32.toNatClampNeg (I m_line (Int32.toNatClampNeg (l1 + (1 : Int32))))) (I m_line (Int32.toNatClampNeg (l1 + (2 : Int32))))) fun I27 =>
    some ((), I27, J)
  else
    bx l1 320 <|
    if (I m_line (Int32.toNatClampNeg l1)) = (2 : Int32) then
      bx (l1 + (1 : Int32)) 320 <|
      bx (I m_self f_Model_lamps) 60 <|
      lb (ui I m_lampFrom (Int32.toNatClampNeg (I m_self f_Model_lamps)) (I m_line (Int32.toNatClampNeg (l1 + (1 : Int32))))) fun I23 =>
      bx (l1 + (2 : Int32)) 320 <|
      bx (I23 m_self f_Model_lamps) 60 <|
      lb (ui I23 m_lampTo (Int32.toNatClampNeg (I23 m_self f_Model_lamps)) (I23 m_line (Int32.toNatClampNeg (l1 + (2 : Int32))))) fun I24 =>
      bx (l1 + (3 : Int32)) 320 <|
      bx (I24 m_self f_Model_lamps) 60 <|
      lb (ui I24 m_volts (Int32.toNatClampNeg (I24 m_self f_Model_lamps)) (I24 m_line (Int32.toNatClampNeg (l1 + (3 : Int32))))) fun I25 =>
      lb (ui I25 m_self f_Model_lamps ((I25 m_self f_Model_lamps) + (1 : Int32))) fun I26 =>
      some ((), I26, J)
    else
      bx (l1 + (1 : Int32)) 320 <|
      lb (ui I m_self f_Model_wide (I m_line (Int32.toNatClampNeg (l1 + (1 : Int32))))) fun I14 =>
      lb (ui I14 m_self f_Model_lamps (0 : Int32)) fun I15 =>
      lb (ui I15 m_self f_Model_shownHigh (0 : Int32)) fun I16 =>
      lb (ui I16 m_self f_Model_shownLow (0 : Int32)) fun I17 =>
      lb (ui I17 m_self f_Model_seenMany (0 : Int32)) fun I18 =>
      lb (ui I18 m_self f_Model_testMany (0 : Int32)) fun I19 =>
      F_X12_take_L147 I19 (fun (J21 : HJ) =>
      lb (ui I19 m_self f_Model_boards ((I19 m_self f_Model_boards) + (1 : Int32))) fun I22 =>
      some ((), I22, J21)) bgf (0 : Int32) J
set_option maxRecDepth 100000 in
theorem cm_X12_take (b : Bool) (l1 : Int32) (I : HI) (J : HJ) : CM mX12_take 1 0 0 [.ref 81, .int l1] (zs b, I, J) (fV (zs b)) (F_X12_take l1 I J) := by
  refine S.of okX12_take pn_X12 (Nat.le_of_ble_eq_true rfl) ?_
  refine S.sub (lv' := [(0, .ref 81), (1, .int l1)]) [0, 1] rfl ?_
  unfold F_X12_take
  refine S.aload_n 0 0 rfl rfl ?_
  refine S.getR 1 rfl fo_X12_37 rfl rfl rfl ?_
  refine S.iload_n 2 1 rfl rfl ?_
  refine S.iald 3 rfl rfl ?_
  refine S.iconst (1 : Int32) 4 rfl (by decide) ?_
  refine S.icmp_ne 34 5 rfl (by decide) (fun _ => ?_) (fun _ => ?_)
  · refine S.aload_n 22 0 rfl rfl ?_
    refine S.getR 23 rfl fo_X12_37 rfl rfl rfl ?_
    refine S.iload_n 24 1 rfl rfl ?_
    refine S.iald 25 rfl rfl ?_
    refine S.iconst (2 : Int32) 26 rfl (by decide) ?_
    refine S.icmp_ne 108 27 rfl (by decide) (fun _ => ?_) (fun _ => ?_)
    · refine S.aload_n 68 0 rfl rfl ?_
      refine S.aload_n 69 0 rfl rfl ?_
      refine S.getR 70 rfl fo_X12_37 rfl rfl rfl ?_
      refine S.iload_n 71 1 rfl rfl ?_
      refine S.iconst (1 : Int32) 72 rfl (by decide) ?_
      refine S.iadd 73 rfl ?_
      refine S.iald 74 rfl rfl ?_
      refine S.putI 75 rfl fo_X12_9 rfl rfl rfl rfl (fun _ hq => by cases hq; exact Or.inl rfl) (fun I14 => ?_)
      refine S.aload_n 76 0 rfl rfl ?_
      refine S.iconst (0 : Int32) 77 rfl (by decide) ?_
      refine S.putI 78 rfl fo_X12_169 rfl rfl rfl rfl (fun _ hq => by cases hq; exact Or.inl rfl) (fun I15 => ?_)
      refine S.aload_n 79 0 rfl rfl ?_
      refine S.iconst (0 : Int32) 80 rfl (by decide) ?_
      refine S.putI 81 rfl fo_X12_211 rfl rfl rfl rfl (fun _ hq => by cases hq; exact Or.inl rfl) (fun I16 => ?_)
      refine S.aload_n 82 0 rfl rfl ?_
      refine S.iconst (0 : Int32) 83 rfl (by decide) ?_
      refine S.putI 84 rfl fo_X12_214 rfl rfl rfl rfl (fun _ hq => by cases hq; exact Or.inl rfl) (fun I17 => ?_)
      refine S.aload_n 85 0 rfl rfl ?_
      refine S.iconst (0 : Int32) 86 rfl (by decide) ?_
      refine S.putI 87 rfl fo_X12_217 rfl rfl rfl rfl (fun _ hq => by cases hq; exact Or.inl rfl) (fun I18 => ?_)
      refine S.aload_n 88 0 rfl rfl ?_
      refine S.iconst (0 : Int32) 89 rfl (by decide) ?_
      refine S.putI 90 rfl fo_X12_220 rfl rfl rfl rfl (fun _ hq => by cases hq; exact Or.inl rfl) (fun I19 => ?_)
      refine S.iconst (0 : Int32) 91 rfl (by decide) ?_
      refine S.istore_n [(2, .int (0 : Int32)), (0, .ref 81), (1, .int l1)] 92 rfl (by decide) rfl ?_
      refine S.sub (lv' := [(0, .ref 81), (2, .int (0 : Int32))]) [1, 0] rfl ?_
      refine s_X12_take_L147 b _ _ (fun J21 => ?_) bgf _ _
      refine S.aload_n 103 0 rfl rfl ?_
      refine S.dup 104 rfl rfl ?_
      refine S.getI 105 rfl fo_X12_223 rfl rfl ?_
      refine S.iconst (1 : Int32) 106 rfl (by decide) ?_
      refine S.iadd 107 rfl ?_
      refine S.putI 108 rfl fo_X12_223 rfl rfl rfl rfl (fun _ hq => by cases hq; exact Or.inl rfl) (fun I22 => ?_)
      exact S.vret 109 rfl rfl (Nat.le_refl _) (Nat.le_refl _) rfl
    · refine S.aload_n 28 0 rfl rfl ?_
      refine S.getR 29 rfl fo_X12_13 rfl rfl rfl ?_
      refine S.aload_n 30 0 rfl rfl ?_
      refine S.getI 31 rfl fo_X12_169 rfl rfl ?_
      refine S.aload_n 32 0 rfl rfl ?_
      refine S.getR 33 rfl fo_X12_37 rfl rfl rfl ?_
      refine S.iload_n 34 1 rfl rfl ?_
      refine S.iconst (1 : Int32) 35 rfl (by decide) ?_
      refine S.iadd 36 rfl ?_
      refine S.iald 37 rfl rfl ?_
      refine S.iast 38 rfl rfl (fun I23 => ?_)
      refine S.aload_n 39 0 rfl rfl ?_
      refine S.getR 40 rfl fo_X12_17 rfl rfl rfl ?_
      refine S.aload_n 41 0 rfl rfl ?_
      refine S.getI 42 rfl fo_X12_169 rfl rfl ?_
      refine S.aload_n 43 0 rfl rfl ?_
      refine S.getR 44 rfl fo_X12_37 rfl rfl rfl ?_
      refine S.iload_n 45 1 rfl rfl ?_
      refine S.iconst (2 : Int32) 46 rfl (by decide) ?_
      refine S.iadd 47 rfl ?_
      refine S.iald 48 rfl rfl ?_
      refine S.iast 49 rfl rfl (fun I24 => ?_)
      refine S.aload_n 50 0 rfl rfl ?_
      refine S.getR 51 rfl fo_X12_20 rfl rfl rfl ?_
      refine S.aload_n 52 0 rfl rfl ?_
      refine S.getI 53 rfl fo_X12_169 rfl rfl ?_
      refine S.aload_n 54 0 rfl rfl ?_
      refine S.getR 55 rfl fo_X12_37 rfl rfl rfl ?_
      refine S.iload_n 56 1 rfl rfl ?_
      refine S.iconst (3 : Int32) 57 rfl (by decide) ?_
      refine S.iadd 58 rfl ?_
      refine S.iald 59 rfl rfl ?_
      refine S.iast 60 rfl rfl (fun I25 => ?_)
      refine S.aload_n 61 0 rfl rfl ?_
      refine S.dup 62 rfl rfl ?_
      refine S.getI 63 rfl fo_X12_169 rfl rfl ?_
      refine S.iconst (1 : Int32) 64 rfl (by decide) ?_
      refine S.iadd 65 rfl ?_
      refine S.putI 66 rfl fo_X12_169 rfl rfl rfl rfl (fun _ hq => by cases hq; exact Or.inl rfl) (fun I26 => ?_)
      refine S.goto 175 67 rfl (by decide) ?_
      exact S.vret 109 rfl rfl (Nat.le_refl _) (Nat.le_refl _) rfl
  · refine S.aload_n 6 0 rfl rfl ?_
    refine S.getR 7 rfl fo_X12_23 rfl rfl rfl ?_
    refine S.aload_n 8 0 rfl rfl ?_
    refine S.getR 9 rfl fo_X12_37 rfl rfl rfl ?_
    refine S.iload_n 10 1 rfl rfl ?_
    refine S.iconst (1 : Int32) 11 rfl (by decide) ?_
    refine S.iadd 12 rfl ?_
    refine S.iald 13 rfl rfl ?_
    refine S.aload_n 14 0 rfl rfl ?_
    refine S.getR 15 rfl fo_X12_37 rfl rfl rfl ?_
    refine S.iload_n 16 1 rfl rfl ?_
    refine S.iconst (2 : Int32) 17 rfl (by decide) ?_
    refine S.iadd 18 rfl ?_
    refine S.iald 19 rfl rfl ?_
    refine S.iast 20 rfl rfl (fun I27 => ?_)
    refine S.goto 175 21 rfl (by decide) ?_
    exact S.vret 109 rfl rfl (Nat.le_refl _) (Nat.le_refl _) rfl
def F_X12_board_L54 (kx324 : Int32 → HI → HJ → Option (Int32 × HI × HJ)) : Nat → Int32 → Int32 → Int32 → Int32 → HI → HJ → Option (Int32 × HI × HJ)
  | 0, _, _, _, _, _, _ => none
  | K+1, l1, l2, l3, l4, I, J =>
    if l4 = 0 then
      kx324 l1 I J
    else
      if (I m_self f_Model_wrong) = (-1 : Int32) then
        lb (((4 : Int32) * l1)) fun x28 =>
        cl (F_X12_passes (119 : Int32) I J) fun r29 I30 J31 =>
        lb (fun (y32 : Int32) (y33 : Int32) (I34 : HI) (J35 : HJ) =>
        cl (F_X12_passes (59 : Int32) I34 J35) fun r37 I38 J39 =>
        F_X12_board_L54 kx324 K (l1 + 1) y32 y33 r37 I38 J39) fun j36 =>
        if r29 = 0 then
          cl (F_X12_passes (114 : Int32) I30 J31) fun r40 I41 J42 =>
          if r40 = 0 then
            bx x28 320 <|
            lb (ui I41 m_line (Int32.toNatClampNeg x28) (2 : Int32)) fun I43 =>
            lb (fun (I44 : HI) (J45 : HJ) =>
            cl (F_X12_number (1 : Int32) (0 : Int32) (l2 - (1 : Int32)) I44 J45) fun r47 I48 J49 =>
            bx (x28 + (1 : Int32)) 320 <|
            lb (ui I48 m_line (Int32.toNatClampNeg (x28 + (1 : Int32))) r47) fun I50 =>
            cl (F_X12_need (62 : Int32) I50 J49) fun _ I51 J52 =>
            cl (F_X12_number (1 : Int32) (0 : Int32) (l2 - (1 : Int32)) I51 J52) fun r53 I54 J55 =>
            bx (x28 + (2 : Int32)) 320 <|
            lb (ui I54 m_line (Int32.toNatClampNeg (x28 + (2 : Int32))) r53) fun I56 =>
            lb (fun (I57 : HI) (J58 : HJ) =>
            cl (F_X12_need (42 : Int32) I57 J58) fun _ I60 J61 =>
            cl (F_X12_number (2 : Int32) (1 : Int32) (9 : Int32) I60 J61) fun r62 I63 J64 =>
            bx (x28 + (3 : Int32)) 320 <|
            lb (ui I63 m_line (Int32.toNatClampNeg (x28 + (3 : Int32))) r62) fun I65 =>
            j36 l2 (l3 + 1) I65 J64) fun j59 =>
            if (I56 m_self f_Model_wrong) = (-1 : Int32) then
              bx (x28 + (1 : Int32)) 320 <|
              bx (x28 + (2 : Int32)) 320 <|
              if (I56 m_line (Int32.toNatClampNeg (x28 + (1 : Int32)))) = (I56 m_line (Int32.toNatClampNeg (x28 + (2 : Int32)))) then
                cl (F_X12_fault ((I56 m_self f_Model_at) - (1 : Int32)) I56 J55) fun _ I66 J67 =>
                j59 I66 J67
              else
                j59 I56 J55
            else
              j59 I56 J55) fun j46 =>
            if l3 = (60 : Int32) then
              cl (F_X12_fault (I43 m_self f_Model_at) I43 J42) fun _ I68 J69 =>
              j46 I68 J69
            else
              j46 I43 J42
          else
            bx x28 320 <|
            lb (ui I41 m_line (Int32.toNatClampNeg x28) (1 : Int32)) fun I70 =>
            cl (F_X12_number (1 : Int32) (0 : Int32) (l2 - (1 : Int32)) I70 J42) fun r71 I72 J73 =>
            bx (x28 + (1 : Int32)) 320 <|
            lb (ui I72 m_line (Int32.toNatClampNeg (x28 + (1 : Int32))) r71) fun I74 =>
            cl (F_X12_need (44 : Int32) I74 J73) fun _ I75 J76 =>
            cl (F_X12_number (2 : Int32) (0 : Int32) (4 : Int32) I75 J76) fun r77 I78 J79 =>
            bx (x28 + (2 : Int32)) 320 <|
            lb (ui I78 m_line (Int32.toNatClampNeg (x28 + (2 : Int32))) r77) fun I80 =>
            j36 l2 l3 I80 J79
        else
          bx x28 320 <|
          lb (ui I30 m_line (Int32.toNatClampNeg x28) (0 : Int32)) fun I81 =>
          cl (F_X12_number (2 : Int32) (2 : Int32) (10 : Int32) I81 J31) fun r82 I83 J84 =>
          bx (x28 + (1 : Int32)) 320 <|
          lb (ui I83 m_line (Int32.toNatClampNeg (x28 + (1 : Int32))) r82) fun I85 =>
          bx (x28 + (1 : Int32)) 320 <|
          lb ((I85 m_line (Int32.toNatClampNeg (x28 + (1 : Int32))))) fun x86 =>
          j36 x86 (0 : Int32) I85 J84
      else
        kx324 l1 I J
set_option maxRecDepth 100000 in
theorem s_X12_board_L54 (b : Bool) (kx324 : Int32 → HI → HJ → Option (Int32 × HI × HJ)) (hkx324 : ∀ (y1 : Int32) (I1 : HI) (J1 : HJ), S (fI (zs b)) mX12_board (rmd 4 0 0) 0 0 (0, 0) 324 [(0, .ref 81), (1, .int y1)] [] (zs b, I1, J1) (kx324 y1 I1 J1)) : ∀ (K : Nat) (l1 : Int32) (l2 : Int32) (l3 : Int32) (l4 : Int32) (I : HI) (J : HJ), S (fI (zs b)) mX12_board (rmd 4 0 0) 0 0 (0, 0) 54 [(0, .ref 81), (1, .int l1), (2, .int l2), (3, .int l3), (4, .int l4)] [] (zs b, I, J) (F_X12_board_L54 kx324 K l1 l2 l3 l4 I J) := by
  intro K
  induction K with
  | zero => intro l1 l2 l3 l4 I J; exact S.none
  | succ K ih =>
    intro l1 l2 l3 l4 I J
    rw [F_X12_board_L54]
    refine S.iload 31 4 rfl rfl ?_
    refine S.if_eq 324 32 rfl (by decide) (fun _ => ?_) (fun _ => ?_)
    · refine S.sub (lv' := [(0, .ref 81), (1, .int l1)]) [0, 1] rfl ?_
      exact hkx324 _ _ _
    · refine S.aload_n 33 0 rfl rfl ?_
      refine S.getI 34 rfl fo_X12_181 rfl rfl ?_
      refine S.iconst (-1 : Int32) 35 rfl (by decide) ?_
      refine S.icmp_ne 324 36 rfl (by decide) (fun _ => ?_) (fun _ => ?_)
      · refine S.sub (lv' := [(0, .ref 81), (1, .int l1)]) [0, 1] rfl ?_
        exact hkx324 _ _ _
      · refine S.iconst (4 : Int32) 37 rfl (by decide) ?_
        refine S.iload_n 38 1 rfl rfl ?_
        refine S.imul 39 rfl ?_
        refine S.nmi (fun x28 => ?_)
        refine S.istore [(5, .int x28), (0, .ref 81), (1, .int l1), (2, .int l2), (3, .int l3), (4, .int l4)] 40 rfl (by decide) rfl ?_
        refine S.aload_n 41 1 rfl rfl ?_
        refine S.bipush (119 : Int32) 42 rfl (by decide) ?_
        refine S.cVI (d := 2) (av := [.int (119 : Int32)]) (rs := [.int (119 : Int32)]) (b := 81) 43 rfl co_X12_188 rfl rfl rfl rfl rfl ⟨⟨Nat.le_of_ble_eq_true rfl, Nat.le_of_ble_eq_true rfl⟩, ⟨Nat.le_of_ble_eq_true rfl, Nat.le_of_ble_eq_true rfl⟩, Nat.le_of_ble_eq_true rfl⟩ (cm_X12_passes b (119 : Int32) I J) (fun r29 I30 J31 => ?_)
        refine S.jn (fun j => ∀ (y32 : Int32) (y33 : Int32) (I34 : HI) (J35 : HJ), S (fI (zs b)) mX12_board (rmd 4 0 0) 0 0 (0, 0) 310 [(0, .ref 81), (1, .int l1), (2, .int y32), (3, .int y33)] [] (zs b, I34, J35) (j y32 y33 I34 J35)) (fun y32 y33 I34 J35 => ?_) (fun j36 hj36 => ?_)
        · refine S.iinc (l1 + 1) [(1, .int (l1 + 1)), (0, .ref 81), (2, .int y32), (3, .int y33)] 187 1 rfl rfl rfl (by decide) rfl ?_
          refine S.aload_n 188 1 rfl rfl ?_
          refine S.bipush (59 : Int32) 189 rfl (by decide) ?_
          refine S.cVI (d := 2) (av := [.int (59 : Int32)]) (rs := [.int (59 : Int32)]) (b := 81) 190 rfl co_X12_188 rfl rfl rfl rfl rfl ⟨⟨Nat.le_of_ble_eq_true rfl, Nat.le_of_ble_eq_true rfl⟩, ⟨Nat.le_of_ble_eq_true rfl, Nat.le_of_ble_eq_true rfl⟩, Nat.le_of_ble_eq_true rfl⟩ (cm_X12_passes b (59 : Int32) I34 J35) (fun r37 I38 J39 => ?_)
          refine S.istore [(4, .int r37), (1, .int (l1 + 1)), (0, .ref 81), (2, .int y32), (3, .int y33)] 191 rfl (by decide) rfl ?_
          refine S.goto 54 192 rfl (by decide) ?_
          refine S.sub (lv' := [(0, .ref 81), (1, .int (l1 + 1)), (2, .int y32), (3, .int y33), (4, .int r37)]) [2, 1, 3, 4, 0] rfl ?_
          exact ih _ _ _ _ _ _
        · refine S.if_eq 121 44 rfl (by decide) (fun _ => ?_) (fun _ => ?_)
          · refine S.aload_n 71 1 rfl rfl ?_
            refine S.bipush (114 : Int32) 72 rfl (by decide) ?_
            refine S.cVI (d := 2) (av := [.int (114 : Int32)]) (rs := [.int (114 : Int32)]) (b := 81) 73 rfl co_X12_188 rfl rfl rfl rfl rfl ⟨⟨Nat.le_of_ble_eq_true rfl, Nat.le_of_ble_eq_true rfl⟩, ⟨Nat.le_of_ble_eq_true rfl, Nat.le_of_ble_eq_true rfl⟩, Nat.le_of_ble_eq_true rfl⟩ (cm_X12_passes b (114 : Int32) I30 J31) (fun r40 I41 J42 => ?_)
            refine S.if_eq 181 74 rfl (by decide) (fun _ => ?_) (fun _ => ?_)
            · refine S.aload_n 108 1 rfl rfl ?_
              refine S.getR 109 rfl fo_X12_37 rfl rfl rfl ?_
              refine S.iload 110 0 rfl rfl ?_
              refine S.iconst (2 : Int32) 111 rfl (by decide) ?_
              refine S.iast 112 rfl rfl (fun I43 => ?_)
              refine S.iload_n 113 4 rfl rfl ?_
              refine S.bipush (60 : Int32) 114 rfl (by decide) ?_
              refine S.jn (fun j => ∀ (I44 : HI) (J45 : HJ), S (fI (zs b)) mX12_board (rmd 4 0 0) 0 0 (0, 0) 203 [(0, .ref 81), (1, .int l1), (2, .int l2), (3, .int l3), (5, .int x28)] [] (zs b, I44, J45) (j I44 J45)) (fun I44 J45 => ?_) (fun j46 hj46 => ?_)
              · refine S.aload_n 120 0 rfl rfl ?_
                refine S.getR 121 rfl fo_X12_37 rfl rfl rfl ?_
                refine S.iload 122 4 rfl rfl ?_
                refine S.iconst (1 : Int32) 123 rfl (by decide) ?_
                refine S.iadd 124 rfl ?_
                refine S.aload_n 125 0 rfl rfl ?_
                refine S.iconst (1 : Int32) 126 rfl (by decide) ?_
                refine S.iconst (0 : Int32) 127 rfl (by decide) ?_
                refine S.iload_n 128 2 rfl rfl ?_
                refine S.iconst (1 : Int32) 129 rfl (by decide) ?_
                refine S.isub 130 rfl ?_
                refine S.cVI (d := 2) (av := [.int (1 : Int32), .int (0 : Int32), .int (l2 - (1 : Int32))]) (rs := [.int (l2 - (1 : Int32)), .int (0 : Int32), .int (1 : Int32)]) (b := 81) 131 rfl co_X12_200 rfl rfl rfl rfl rfl ⟨⟨Nat.le_of_ble_eq_true rfl, Nat.le_of_ble_eq_true rfl⟩, ⟨Nat.le_of_ble_eq_true rfl, Nat.le_of_ble_eq_true rfl⟩, Nat.le_of_ble_eq_true rfl⟩ (cm_X12_number b (1 : Int32) (0 : Int32) (l2 - (1 : Int32)) I44 J45) (fun r47 I48 J49 => ?_)
                refine S.iast 132 rfl rfl (fun I50 => ?_)
                refine S.aload_n 133 0 rfl rfl ?_
                refine S.bipush (62 : Int32) 134 rfl (by decide) ?_
                refine S.cVV (d := 3) (av := [.int (62 : Int32)]) (rs := [.int (62 : Int32)]) (b := 81) 135 rfl co_X12_204 rfl rfl rfl rfl rfl ⟨⟨Nat.le_of_ble_eq_true rfl, Nat.le_of_ble_eq_true rfl⟩, ⟨Nat.le_of_ble_eq_true rfl, Nat.le_of_ble_eq_true rfl⟩, Nat.le_of_ble_eq_true rfl⟩ (cm_X12_need b (62 : Int32) I50 J49) (fun _ I51 J52 => ?_)
                refine S.aload_n 136 0 rfl rfl ?_
                refine S.getR 137 rfl fo_X12_37 rfl rfl rfl ?_
                refine S.iload 138 4 rfl rfl ?_
                refine S.iconst (2 : Int32) 139 rfl (by decide) ?_
                refine S.iadd 140 rfl ?_
                refine S.aload_n 141 0 rfl rfl ?_
                refine S.iconst (1 : Int32) 142 rfl (by decide) ?_
                refine S.iconst (0 : Int32) 143 rfl (by decide) ?_
                refine S.iload_n 144 2 rfl rfl ?_
                refine S.iconst (1 : Int32) 145 rfl (by decide) ?_
                refine S.isub 146 rfl ?_
                refine S.cVI (d := 2) (av := [.int (1 : Int32), .int (0 : Int32), .int (l2 - (1 : Int32))]) (rs := [.int (l2 - (1 : Int32)), .int (0 : Int32), .int (1 : Int32)]) (b := 81) 147 rfl co_X12_200 rfl rfl rfl rfl rfl ⟨⟨Nat.le_of_ble_eq_true rfl, Nat.le_of_ble_eq_true rfl⟩, ⟨Nat.le_of_ble_eq_true rfl, Nat.le_of_ble_eq_true rfl⟩, Nat.le_of_ble_eq_true rfl⟩ (cm_X12_number b (1 : Int32) (0 : Int32) (l2 - (1 : Int32)) I51 J52) (fun r53 I54 J55 => ?_)
                refine S.iast 148 rfl rfl (fun I56 => ?_)
                refine S.aload_n 149 0 rfl rfl ?_
                refine S.getI 150 rfl fo_X12_181 rfl rfl ?_
                refine S.iconst (-1 : Int32) 151 rfl (by decide) ?_
                refine S.jn (fun j => ∀ (I57 : HI) (J58 : HJ), S (fI (zs b)) mX12_board (rmd 4 0 0) 0 0 (0, 0) 284 [(0, .ref 81), (1, .int l1), (2, .int l2), (3, .int l3), (5, .int x28)] [] (zs b, I57, J58) (j I57 J58)) (fun I57 J58 => ?_) (fun j59 hj59 => ?_)
                · refine S.aload_n 172 0 rfl rfl ?_
                  refine S.bipush (42 : Int32) 173 rfl (by decide) ?_
                  refine S.cVV (d := 3) (av := [.int (42 : Int32)]) (rs := [.int (42 : Int32)]) (b := 81) 174 rfl co_X12_204 rfl rfl rfl rfl rfl ⟨⟨Nat.le_of_ble_eq_true rfl, Nat.le_of_ble_eq_true rfl⟩, ⟨Nat.le_of_ble_eq_true rfl, Nat.le_of_ble_eq_true rfl⟩, Nat.le_of_ble_eq_true rfl⟩ (cm_X12_need b (42 : Int32) I57 J58) (fun _ I60 J61 => ?_)
                  refine S.aload_n 175 0 rfl rfl ?_
                  refine S.getR 176 rfl fo_X12_37 rfl rfl rfl ?_
                  refine S.iload 177 4 rfl rfl ?_
                  refine S.iconst (3 : Int32) 178 rfl (by decide) ?_
                  refine S.iadd 179 rfl ?_
                  refine S.aload_n 180 0 rfl rfl ?_
                  refine S.iconst (2 : Int32) 181 rfl (by decide) ?_
                  refine S.iconst (1 : Int32) 182 rfl (by decide) ?_
                  refine S.bipush (9 : Int32) 183 rfl (by decide) ?_
                  refine S.cVI (d := 2) (av := [.int (2 : Int32), .int (1 : Int32), .int (9 : Int32)]) (rs := [.int (9 : Int32), .int (1 : Int32), .int (2 : Int32)]) (b := 81) 184 rfl co_X12_200 rfl rfl rfl rfl rfl ⟨⟨Nat.le_of_ble_eq_true rfl, Nat.le_of_ble_eq_true rfl⟩, ⟨Nat.le_of_ble_eq_true rfl, Nat.le_of_ble_eq_true rfl⟩, Nat.le_of_ble_eq_true rfl⟩ (cm_X12_number b (2 : Int32) (1 : Int32) (9 : Int32) I60 J61) (fun r62 I63 J64 => ?_)
                  refine S.iast 185 rfl rfl (fun I65 => ?_)
                  refine S.iinc (l3 + 1) [(3, .int (l3 + 1)), (0, .ref 81), (1, .int l1), (2, .int l2), (5, .int x28)] 186 3 rfl rfl rfl (by decide) rfl ?_
                  refine S.sub (lv' := [(0, .ref 81), (1, .int l1), (2, .int l2), (3, .int (l3 + 1))]) [1, 2, 3, 0] rfl ?_
                  exact hj36 _ _ _ _
                · refine S.icmp_ne 284 152 rfl (by decide) (fun _ => ?_) (fun _ => ?_)
                  · exact hj59 _ _
                  · refine S.aload_n 153 0 rfl rfl ?_
                    refine S.getR 154 rfl fo_X12_37 rfl rfl rfl ?_
                    refine S.iload 155 4 rfl rfl ?_
                    refine S.iconst (1 : Int32) 156 rfl (by decide) ?_
                    refine S.iadd 157 rfl ?_
                    refine S.iald 158 rfl rfl ?_
                    refine S.aload_n 159 0 rfl rfl ?_
                    refine S.getR 160 rfl fo_X12_37 rfl rfl rfl ?_
                    refine S.iload 161 4 rfl rfl ?_
                    refine S.iconst (2 : Int32) 162 rfl (by decide) ?_
                    refine S.iadd 163 rfl ?_
                    refine S.iald 164 rfl rfl ?_
                    refine S.icmp_ne 284 165 rfl (by decide) (fun _ => ?_) (fun _ => ?_)
                    · exact hj59 _ _
                    · refine S.aload_n 166 0 rfl rfl ?_
                      refine S.aload_n 167 0 rfl rfl ?_
                      refine S.getI 168 rfl fo_X12_175 rfl rfl ?_
                      refine S.iconst (1 : Int32) 169 rfl (by decide) ?_
                      refine S.isub 170 rfl ?_
                      refine S.cVV (d := 1) (av := [.int ((I56 m_self f_Model_at) - (1 : Int32))]) (rs := [.int ((I56 m_self f_Model_at) - (1 : Int32))]) (b := 81) 171 rfl co_X12_192 rfl rfl rfl rfl rfl ⟨⟨Nat.le_of_ble_eq_true rfl, Nat.le_of_ble_eq_true rfl⟩, ⟨Nat.le_of_ble_eq_true rfl, Nat.le_of_ble_eq_true rfl⟩, Nat.le_of_ble_eq_true rfl⟩ (cm_X12_fault b ((I56 m_self f_Model_at) - (1 : Int32)) I56 J55) (fun _ I66 J67 => ?_)
                      exact hj59 _ _
              · refine S.icmp_ne 203 115 rfl (by decide) (fun _ => ?_) (fun _ => ?_)
                · refine S.sub (lv' := [(0, .ref 81), (1, .int l1), (2, .int l2), (3, .int l3), (5, .int x28)]) [1, 2, 3, 4, 0] rfl ?_
                  exact hj46 _ _
                · refine S.aload_n 116 1 rfl rfl ?_
                  refine S.aload_n 117 1 rfl rfl ?_
                  refine S.getI 118 rfl fo_X12_175 rfl rfl ?_
                  refine S.cVV (d := 1) (av := [.int (I43 m_self f_Model_at)]) (rs := [.int (I43 m_self f_Model_at)]) (b := 81) 119 rfl co_X12_192 rfl rfl rfl rfl rfl ⟨⟨Nat.le_of_ble_eq_true rfl, Nat.le_of_ble_eq_true rfl⟩, ⟨Nat.le_of_ble_eq_true rfl, Nat.le_of_ble_eq_true rfl⟩, Nat.le_of_ble_eq_true rfl⟩ (cm_X12_fault b (I43 m_self f_Model_at) I43 J42) (fun _ I68 J69 => ?_)
                  refine S.sub (lv' := [(0, .ref 81), (1, .int l1), (2, .int l2), (3, .int l3), (5, .int x28)]) [1, 2, 3, 4, 0] rfl ?_
                  exact hj46 _ _
            · refine S.aload_n 75 1 rfl rfl ?_
              refine S.getR 76 rfl fo_X12_37 rfl rfl rfl ?_
              refine S.iload 77 0 rfl rfl ?_
              refine S.iconst (1 : Int32) 78 rfl (by decide) ?_
              refine S.iast 79 rfl rfl (fun I70 => ?_)
              refine S.aload_n 80 1 rfl rfl ?_
              refine S.getR 81 rfl fo_X12_37 rfl rfl rfl ?_
              refine S.iload 82 0 rfl rfl ?_
              refine S.iconst (1 : Int32) 83 rfl (by decide) ?_
              refine S.iadd 84 rfl ?_
              refine S.aload_n 85 1 rfl rfl ?_
              refine S.iconst (1 : Int32) 86 rfl (by decide) ?_
              refine S.iconst (0 : Int32) 87 rfl (by decide) ?_
              refine S.iload_n 88 3 rfl rfl ?_
              refine S.iconst (1 : Int32) 89 rfl (by decide) ?_
              refine S.isub 90 rfl ?_
              refine S.cVI (d := 2) (av := [.int (1 : Int32), .int (0 : Int32), .int (l2 - (1 : Int32))]) (rs := [.int (l2 - (1 : Int32)), .int (0 : Int32), .int (1 : Int32)]) (b := 81) 91 rfl co_X12_200 rfl rfl rfl rfl rfl ⟨⟨Nat.le_of_ble_eq_true rfl, Nat.le_of_ble_eq_true rfl⟩, ⟨Nat.le_of_ble_eq_true rfl, Nat.le_of_ble_eq_true rfl⟩, Nat.le_of_ble_eq_true rfl⟩ (cm_X12_number b (1 : Int32) (0 : Int32) (l2 - (1 : Int32)) I70 J42) (fun r71 I72 J73 => ?_)
              refine S.iast 92 rfl rfl (fun I74 => ?_)
              refine S.aload_n 93 1 rfl rfl ?_
              refine S.bipush (44 : Int32) 94 rfl (by decide) ?_
              refine S.cVV (d := 3) (av := [.int (44 : Int32)]) (rs := [.int (44 : Int32)]) (b := 81) 95 rfl co_X12_204 rfl rfl rfl rfl rfl ⟨⟨Nat.le_of_ble_eq_true rfl, Nat.le_of_ble_eq_true rfl⟩, ⟨Nat.le_of_ble_eq_true rfl, Nat.le_of_ble_eq_true rfl⟩, Nat.le_of_ble_eq_true rfl⟩ (cm_X12_need b (44 : Int32) I74 J73) (fun _ I75 J76 => ?_)
              refine S.aload_n 96 1 rfl rfl ?_
              refine S.getR 97 rfl fo_X12_37 rfl rfl rfl ?_
              refine S.iload 98 0 rfl rfl ?_
              refine S.iconst (2 : Int32) 99 rfl (by decide) ?_
              refine S.iadd 100 rfl ?_
              refine S.aload_n 101 1 rfl rfl ?_
              refine S.iconst (2 : Int32) 102 rfl (by decide) ?_
              refine S.iconst (0 : Int32) 103 rfl (by decide) ?_
              refine S.iconst (4 : Int32) 104 rfl (by decide) ?_
              refine S.cVI (d := 2) (av := [.int (2 : Int32), .int (0 : Int32), .int (4 : Int32)]) (rs := [.int (4 : Int32), .int (0 : Int32), .int (2 : Int32)]) (b := 81) 105 rfl co_X12_200 rfl rfl rfl rfl rfl ⟨⟨Nat.le_of_ble_eq_true rfl, Nat.le_of_ble_eq_true rfl⟩, ⟨Nat.le_of_ble_eq_true rfl, Nat.le_of_ble_eq_true rfl⟩, Nat.le_of_ble_eq_true rfl⟩ (cm_X12_number b (2 : Int32) (0 : Int32) (4 : Int32) I75 J76) (fun r77 I78 J79 => ?_)
              refine S.iast 106 rfl rfl (fun I80 => ?_)
              refine S.goto 310 107 rfl (by decide) ?_
              refine S.sub (lv' := [(0, .ref 81), (1, .int l1), (2, .int l2), (3, .int l3)]) [1, 2, 3, 4] rfl ?_
              exact hj36 _ _ _ _
          · refine S.aload_n 45 1 rfl rfl ?_
            refine S.getR 46 rfl fo_X12_37 rfl rfl rfl ?_
            refine S.iload 47 0 rfl rfl ?_
            refine S.iconst (0 : Int32) 48 rfl (by decide) ?_
            refine S.iast 49 rfl rfl (fun I81 => ?_)
            refine S.aload_n 50 1 rfl rfl ?_
            refine S.getR 51 rfl fo_X12_37 rfl rfl rfl ?_
            refine S.iload 52 0 rfl rfl ?_
            refine S.iconst (1 : Int32) 53 rfl (by decide) ?_
            refine S.iadd 54 rfl ?_
            refine S.aload_n 55 1 rfl rfl ?_
            refine S.iconst (2 : Int32) 56 rfl (by decide) ?_
            refine S.iconst (2 : Int32) 57 rfl (by decide) ?_
            refine S.bipush (10 : Int32) 58 rfl (by decide) ?_
            refine S.cVI (d := 2) (av := [.int (2 : Int32), .int (2 : Int32), .int (10 : Int32)]) (rs := [.int (10 : Int32), .int (2 : Int32), .int (2 : Int32)]) (b := 81) 59 rfl co_X12_200 rfl rfl rfl rfl rfl ⟨⟨Nat.le_of_ble_eq_true rfl, Nat.le_of_ble_eq_true rfl⟩, ⟨Nat.le_of_ble_eq_true rfl, Nat.le_of_ble_eq_true rfl⟩, Nat.le_of_ble_eq_true rfl⟩ (cm_X12_number b (2 : Int32) (2 : Int32) (10 : Int32) I81 J31) (fun r82 I83 J84 => ?_)
            refine S.iast 60 rfl rfl (fun I85 => ?_)
            refine S.aload_n 61 1 rfl rfl ?_
            refine S.getR 62 rfl fo_X12_37 rfl rfl rfl ?_
            refine S.iload 63 0 rfl rfl ?_
            refine S.iconst (1 : Int32) 64 rfl (by decide) ?_
            refine S.iadd 65 rfl ?_
            refine S.iald 66 rfl rfl ?_
            refine S.nmi (fun x86 => ?_)
            refine S.istore_n [(2, .int x86), (5, .int x28), (0, .ref 81), (1, .int l1), (3, .int l3), (4, .int l4)] 67 rfl (by decide) rfl ?_
            refine S.iconst (0 : Int32) 68 rfl (by decide) ?_
            refine S.istore_n [(3, .int (0 : Int32)), (2, .int x86), (5, .int x28), (0, .ref 81), (1, .int l1), (4, .int l4)] 69 rfl (by decide) rfl ?_
            refine S.goto 310 70 rfl (by decide) ?_
            refine S.sub (lv' := [(0, .ref 81), (1, .int l1), (2, .int x86), (3, .int (0 : Int32))]) [3, 4, 1, 0] rfl ?_
            exact hj36 _ _ _ _
def F_X12_board_L361 (l1 : Int32) : Nat → Int32 → HI → HJ → Option (Int32 × HI × HJ)
  | 0, _, _, _ => none
  | K+1, l5, I, J =>
    if l1 ≤ l5 then
      some (l1, I, J)
    else
      cl (F_X12_take ((4 : Int32) * l5) I J) fun _ I93 J94 =>
      F_X12_board_L361 l1 K (l5 + 1) I93 J94
set_option maxRecDepth 100000 in
theorem s_X12_board_L361 (b : Bool) (l1 : Int32) : ∀ (K : Nat) (l5 : Int32) (I : HI) (J : HJ), S (fI (zs b)) mX12_board (rmd 4 0 0) 0 0 (0, 0) 361 [(0, .ref 81), (1, .int l1), (5, .int l5)] [] (zs b, I, J) (F_X12_board_L361 l1 K l5 I J) := by
  intro K
  induction K with
  | zero => intro l5 I J; exact S.none
  | succ K ih =>
    intro l5 I J
    rw [F_X12_board_L361]
    refine S.iload 213 2 rfl rfl ?_
    refine S.iload_n 214 1 rfl rfl ?_
    refine S.icmp_ge 381 215 rfl (by decide) (fun _ => ?_) (fun _ => ?_)
    · refine S.iload_n 223 1 rfl rfl ?_
      exact S.iret 224 rfl rfl rfl (Nat.le_refl _) (Nat.le_refl _) rfl
    · refine S.aload_n 216 0 rfl rfl ?_
      refine S.iconst (4 : Int32) 217 rfl (by decide) ?_
      refine S.iload 218 2 rfl rfl ?_
      refine S.imul 219 rfl ?_
      refine S.cVV (d := 1) (av := [.int ((4 : Int32) * l5)]) (rs := [.int ((4 : Int32) * l5)]) (b := 81) 220 rfl co_X12_208 rfl rfl rfl rfl rfl ⟨⟨Nat.le_of_ble_eq_true rfl, Nat.le_of_ble_eq_true rfl⟩, ⟨Nat.le_of_ble_eq_true rfl, Nat.le_of_ble_eq_true rfl⟩, Nat.le_of_ble_eq_true rfl⟩ (cm_X12_take b ((4 : Int32) * l5) I J) (fun _ I93 J94 => ?_)
      refine S.iinc (l5 + 1) [(5, .int (l5 + 1)), (0, .ref 81), (1, .int l1)] 221 2 rfl rfl rfl (by decide) rfl ?_
      refine S.goto 361 222 rfl (by decide) ?_
      refine S.sub (lv' := [(0, .ref 81), (1, .int l1), (5, .int (l5 + 1))]) [1, 2, 0] rfl ?_
      exact ih _ _ _
def F_X12_board  (I : HI) (J : HJ) : Option (Int32 × HI × HJ) :=
  lb (ui I m_self f_Model_thrown (0 : Int32)) fun I19 =>
  lb (ui I19 m_self f_Model_size (I19 m_self f_Model_typed)) fun I20 =>
  lb (ui I20 m_self f_Model_typed (0 : Int32)) fun I21 =>
  lb (ui I21 m_self f_Model_at (0 : Int32)) fun I22 =>
  lb (ui I22 m_self f_Model_wrong (-1 : Int32)) fun I23 =>
  lb ((I23 m_self f_Model_wide)) fun x24 =>
  lb ((I23 m_self f_Model_lamps)) fun x25 =>
  lb (fun (y26 : Int32) =>
  F_X12_board_L54 (fun (y87 : Int32) (I88 : HI) (J89 : HJ) =>
  lb (fun (I90 : HI) (J91 : HJ) =>
  if (I90 m_self f_Model_wrong) = (-1 : Int32) then
    F_X12_board_L361 y87 bgf (0 : Int32) I90 J91
  else
    some (((-1 : Int32) - (I90 m_self f_Model_wrong)), I90, J91)) fun j92 =>
  if (I88 m_self f_Model_size) ≤ (I88 m_self f_Model_at) then
    j92 I88 J89
  else
    cl (F_X12_fault (I88 m_self f_Model_at) I88 J89) fun _ I95 J96 =>
    j92 I95 J96) bgf (0 : Int32) x24 x25 y26 I23 J) fun j27 =>
  if (I23 m_self f_Model_size) ≤ 0 then
    j27 (0 : Int32)
  else
    j27 (1 : Int32)
set_option maxRecDepth 100000 in
theorem cm_X12_board (b : Bool)  (I : HI) (J : HJ) : CM mX12_board 4 0 0 [.ref 81] (zs b, I, J) (fI (zs b)) (F_X12_board  I J) := by
  refine S.of okX12_board pn_X12 (Nat.le_of_ble_eq_true rfl) ?_
  refine S.sub (lv' := [(0, .ref 81)]) [0] rfl ?_
  unfold F_X12_board
  refine S.aload_n 0 0 rfl rfl ?_
  refine S.iconst (0 : Int32) 1 rfl (by decide) ?_
  refine S.putI 2 rfl fo_X12_159 rfl rfl rfl rfl (fun _ hq => by cases hq; exact Or.inl rfl) (fun I19 => ?_)
  refine S.aload_n 3 0 rfl rfl ?_
  refine S.aload_n 4 0 rfl rfl ?_
  refine S.getI 5 rfl fo_X12_172 rfl rfl ?_
  refine S.putI 6 rfl fo_X12_178 rfl rfl rfl rfl (fun _ hq => by cases hq; exact Or.inl rfl) (fun I20 => ?_)
  refine S.aload_n 7 0 rfl rfl ?_
  refine S.iconst (0 : Int32) 8 rfl (by decide) ?_
  refine S.putI 9 rfl fo_X12_172 rfl rfl rfl rfl (fun _ hq => by cases hq; exact Or.inl rfl) (fun I21 => ?_)
  refine S.aload_n 10 0 rfl rfl ?_
  refine S.iconst (0 : Int32) 11 rfl (by decide) ?_
  refine S.putI 12 rfl fo_X12_175 rfl rfl rfl rfl (fun _ hq => by cases hq; exact Or.inl rfl) (fun I22 => ?_)
  refine S.aload_n 13 0 rfl rfl ?_
  refine S.iconst (-1 : Int32) 14 rfl (by decide) ?_
  refine S.putI 15 rfl fo_X12_181 rfl rfl rfl rfl (fun _ hq => by cases hq; exact Or.inl rfl) (fun I23 => ?_)
  refine S.iconst (0 : Int32) 16 rfl (by decide) ?_
  refine S.istore_n [(1, .int (0 : Int32)), (0, .ref 81)] 17 rfl (by decide) rfl ?_
  refine S.aload_n 18 1 rfl rfl ?_
  refine S.getI 19 rfl fo_X12_9 rfl rfl ?_
  refine S.nmi (fun x24 => ?_)
  refine S.istore_n [(2, .int x24), (1, .int (0 : Int32)), (0, .ref 81)] 20 rfl (by decide) rfl ?_
  refine S.aload_n 21 2 rfl rfl ?_
  refine S.getI 22 rfl fo_X12_169 rfl rfl ?_
  refine S.nmi (fun x25 => ?_)
  refine S.istore_n [(3, .int x25), (2, .int x24), (1, .int (0 : Int32)), (0, .ref 81)] 23 rfl (by decide) rfl ?_
  refine S.aload_n 24 3 rfl rfl ?_
  refine S.getI 25 rfl fo_X12_178 rfl rfl ?_
  refine S.jn (fun j => ∀ (y26 : Int32), S (fI (zs b)) mX12_board (rmd 4 0 0) 0 0 (0, 0) 52 [(0, .ref 81), (1, .int (0 : Int32)), (2, .int x24), (3, .int x25)] [.int y26] (zs b, I23, J) (j y26)) (fun y26 => ?_) (fun j27 hj27 => ?_)
  · refine S.istore [(4, .int y26), (0, .ref 81), (1, .int (0 : Int32)), (2, .int x24), (3, .int x25)] 30 rfl (by decide) rfl ?_
    refine S.sub (lv' := [(0, .ref 81), (1, .int (0 : Int32)), (2, .int x24), (3, .int x25), (4, .int y26)]) [1, 2, 3, 4, 0] rfl ?_
    refine s_X12_board_L54 b _ (fun y87 I88 J89 => ?_) bgf _ _ _ _ _ _
    refine S.aload_n 193 0 rfl rfl ?_
    refine S.getI 194 rfl fo_X12_175 rfl rfl ?_
    refine S.aload_n 195 0 rfl rfl ?_
    refine S.getI 196 rfl fo_X12_178 rfl rfl ?_
    refine S.jn (fun j => ∀ (I90 : HI) (J91 : HJ), S (fI (zs b)) mX12_board (rmd 4 0 0) 0 0 (0, 0) 343 [(0, .ref 81), (1, .int y87)] [] (zs b, I90, J91) (j I90 J91)) (fun I90 J91 => ?_) (fun j92 hj92 => ?_)
    · refine S.aload_n 202 0 rfl rfl ?_
      refine S.getI 203 rfl fo_X12_181 rfl rfl ?_
      refine S.iconst (-1 : Int32) 204 rfl (by decide) ?_
      refine S.icmp_eq 358 205 rfl (by decide) (fun _ => ?_) (fun _ => ?_)
      · refine S.iconst (0 : Int32) 211 rfl (by decide) ?_
        refine S.istore [(5, .int (0 : Int32)), (0, .ref 81), (1, .int y87)] 212 rfl (by decide) rfl ?_
        refine S.sub (lv' := [(0, .ref 81), (1, .int y87), (5, .int (0 : Int32))]) [1, 2, 0] rfl ?_
        refine s_X12_board_L361 b _ bgf _ _ _
      · refine S.iconst (-1 : Int32) 206 rfl (by decide) ?_
        refine S.aload_n 207 0 rfl rfl ?_
        refine S.getI 208 rfl fo_X12_181 rfl rfl ?_
        refine S.isub 209 rfl ?_
        exact S.iret 210 rfl rfl rfl (Nat.le_refl _) (Nat.le_refl _) rfl
    · refine S.icmp_ge 343 197 rfl (by decide) (fun _ => ?_) (fun _ => ?_)
      · exact hj92 _ _
      · refine S.aload_n 198 0 rfl rfl ?_
        refine S.aload_n 199 0 rfl rfl ?_
        refine S.getI 200 rfl fo_X12_175 rfl rfl ?_
        refine S.cVV (d := 1) (av := [.int (I88 m_self f_Model_at)]) (rs := [.int (I88 m_self f_Model_at)]) (b := 81) 201 rfl co_X12_192 rfl rfl rfl rfl rfl ⟨⟨Nat.le_of_ble_eq_true rfl, Nat.le_of_ble_eq_true rfl⟩, ⟨Nat.le_of_ble_eq_true rfl, Nat.le_of_ble_eq_true rfl⟩, Nat.le_of_ble_eq_true rfl⟩ (cm_X12_fault b (I88 m_self f_Model_at) I88 J89) (fun _ I95 J96 => ?_)
        exact hj92 _ _
  · refine S.if_le 51 26 rfl (by decide) (fun _ => ?_) (fun _ => ?_)
    · refine S.iconst (0 : Int32) 29 rfl (by decide) ?_
      refine S.sub (lv' := [(0, .ref 81), (1, .int (0 : Int32)), (2, .int x24), (3, .int x25)]) [3, 2, 1, 0] rfl ?_
      exact hj27 _
    · refine S.iconst (1 : Int32) 27 rfl (by decide) ?_
      refine S.goto 52 28 rfl (by decide) ?_
      refine S.sub (lv' := [(0, .ref 81), (1, .int (0 : Int32)), (2, .int x24), (3, .int x25)]) [3, 2, 1, 0] rfl ?_
      exact hj27 _
def F_X12_set (l1 : Int32) (l2 : Int32) (I : HI) (J : HJ) : Option (Int32 × HI × HJ) :=
  lb (ui I m_self f_Model_thrown (0 : Int32)) fun I4 =>
  cp (F_X12_in (Int32.toInt64 l1) (0 : Int64) (2 : Int64)) fun r5 =>
  if r5 = 0 then
    some ((-1 : Int32), I4, J)
  else
    lb (fun (y6 : Int64) (y7 : Int64) =>
    lb (fun (y9 : Int64) (y10 : Int64) (y11 : Int64) =>
    cp (F_X12_in y9 y10 y11) fun r13 =>
    if r13 = 0 then
      some ((-1 : Int32), I4, J)
    else
      bx l1 3 <|
      lb ((I4 m_sets (Int32.toNatClampNeg l1))) fun x14 =>
      bx l1 3 <|
      lb (ui I4 m_sets (Int32.toNatClampNeg l1) l2) fun I15 =>
      some (x14, I15, J)) fun j12 =>
    if l1 = 0 then
      j12 y6 y7 (20 : Int64)
    else
      if l1 = (1 : Int32) then
        j12 y6 y7 (3 : Int64)
      else
        j12 y6 y7 (99 : Int64)) fun j8 =>
    if l1 = (2 : Int32) then
      j8 (Int32.toInt64 l2) (0 : Int64)
    else
      j8 (Int32.toInt64 l2) (1 : Int64)
set_option maxRecDepth 100000 in
theorem cm_X12_set (b : Bool) (l1 : Int32) (l2 : Int32) (I : HI) (J : HJ) : CM mX12_set 2 0 0 [.ref 81, .int l1, .int l2] (zs b, I, J) (fI (zs b)) (F_X12_set l1 l2 I J) := by
  refine S.of okX12_set pn_X12 (Nat.le_of_ble_eq_true rfl) ?_
  refine S.sub (lv' := [(0, .ref 81), (1, .int l1), (2, .int l2)]) [0, 1, 2] rfl ?_
  unfold F_X12_set
  refine S.aload_n 0 0 rfl rfl ?_
  refine S.iconst (0 : Int32) 1 rfl (by decide) ?_
  refine S.putI 2 rfl fo_X12_159 rfl rfl rfl rfl (fun _ hq => by cases hq; exact Or.inl rfl) (fun I4 => ?_)
  refine S.iload_n 3 1 rfl rfl ?_
  refine S.i2l 4 rfl ?_
  refine S.lconst (0 : Int64) 5 rfl (by decide) ?_
  refine S.ldc2 (2 : Int64) 6 rfl ko_X12_226 ?_
  refine S.qSI (d := 1) (av := [.long (Int32.toInt64 l1), .long (0 : Int64), .long (2 : Int64)]) (rs := [.long (2 : Int64), .long (0 : Int64), .long (Int32.toInt64 l1)]) 7 rfl co_X12_165 rfl rfl ⟨⟨Nat.le_of_ble_eq_true rfl, Nat.le_of_ble_eq_true rfl⟩, ⟨Nat.le_of_ble_eq_true rfl, Nat.le_of_ble_eq_true rfl⟩, Nat.le_of_ble_eq_true rfl⟩ (cm_X12_in (zs b, I4, J) (Int32.toInt64 l1) (0 : Int64) (2 : Int64)) (fun r5 => ?_)
  refine S.if_eq 59 8 rfl (by decide) (fun _ => ?_) (fun _ => ?_)
  · refine S.iconst (-1 : Int32) 29 rfl (by decide) ?_
    exact S.iret 30 rfl rfl rfl (Nat.le_refl _) (Nat.le_refl _) rfl
  · refine S.iload_n 9 2 rfl rfl ?_
    refine S.i2l 10 rfl ?_
    refine S.iload_n 11 1 rfl rfl ?_
    refine S.iconst (2 : Int32) 12 rfl (by decide) ?_
    refine S.jn (fun j => ∀ (y6 : Int64) (y7 : Int64), S (fI (zs b)) mX12_set (rmd 2 0 0) 0 0 (0, 0) 29 [(0, .ref 81), (1, .int l1), (2, .int l2)] [.long y7, .long y6] (zs b, I4, J) (j y6 y7)) (fun y6 y7 => ?_) (fun j8 hj8 => ?_)
    · refine S.iload_n 17 1 rfl rfl ?_
      refine S.jn (fun j => ∀ (y9 : Int64) (y10 : Int64) (y11 : Int64), S (fI (zs b)) mX12_set (rmd 2 0 0) 0 0 (0, 0) 53 [(0, .ref 81), (1, .int l1), (2, .int l2)] [.long y11, .long y10, .long y9] (zs b, I4, J) (j y9 y10 y11)) (fun y9 y10 y11 => ?_) (fun j12 hj12 => ?_)
      · refine S.qSI (d := 1) (av := [.long y9, .long y10, .long y11]) (rs := [.long y11, .long y10, .long y9]) 27 rfl co_X12_165 rfl rfl ⟨⟨Nat.le_of_ble_eq_true rfl, Nat.le_of_ble_eq_true rfl⟩, ⟨Nat.le_of_ble_eq_true rfl, Nat.le_of_ble_eq_true rfl⟩, Nat.le_of_ble_eq_true rfl⟩ (cm_X12_in (zs b, I4, J) y9 y10 y11) (fun r13 => ?_)
        refine S.if_ne 61 28 rfl (by decide) (fun _ => ?_) (fun _ => ?_)
        · refine S.aload_n 31 0 rfl rfl ?_
          refine S.getR 32 rfl fo_X12_26 rfl rfl rfl ?_
          refine S.iload_n 33 1 rfl rfl ?_
          refine S.iald 34 rfl rfl ?_
          refine S.nmi (fun x14 => ?_)
          refine S.istore_n [(3, .int x14), (0, .ref 81), (1, .int l1), (2, .int l2)] 35 rfl (by decide) rfl ?_
          refine S.aload_n 36 1 rfl rfl ?_
          refine S.getR 37 rfl fo_X12_26 rfl rfl rfl ?_
          refine S.iload_n 38 2 rfl rfl ?_
          refine S.iload_n 39 3 rfl rfl ?_
          refine S.iast 40 rfl rfl (fun I15 => ?_)
          refine S.iload_n 41 0 rfl rfl ?_
          exact S.iret 42 rfl rfl rfl (Nat.le_refl _) (Nat.le_refl _) rfl
        · refine S.iconst (-1 : Int32) 29 rfl (by decide) ?_
          exact S.iret 30 rfl rfl rfl (Nat.le_refl _) (Nat.le_refl _) rfl
      · refine S.if_ne 39 18 rfl (by decide) (fun _ => ?_) (fun _ => ?_)
        · refine S.iload_n 21 1 rfl rfl ?_
          refine S.iconst (1 : Int32) 22 rfl (by decide) ?_
          refine S.icmp_ne 50 23 rfl (by decide) (fun _ => ?_) (fun _ => ?_)
          · refine S.ldc2 (99 : Int64) 26 rfl ko_X12_232 ?_
            exact hj12 _ _ _
          · refine S.ldc2 (3 : Int64) 24 rfl ko_X12_230 ?_
            refine S.goto 53 25 rfl (by decide) ?_
            exact hj12 _ _ _
        · refine S.ldc2 (20 : Int64) 19 rfl ko_X12_228 ?_
          refine S.goto 53 20 rfl (by decide) ?_
          exact hj12 _ _ _
    · refine S.icmp_ne 28 13 rfl (by decide) (fun _ => ?_) (fun _ => ?_)
      · refine S.lconst (1 : Int64) 16 rfl (by decide) ?_
        exact hj8 _ _
      · refine S.lconst (0 : Int64) 14 rfl (by decide) ?_
        refine S.goto 29 15 rfl (by decide) ?_
        exact hj8 _ _
def F_X12_isLamp (l1 : Int32) (I : HI) (J : HJ) : Option Int32 :=
  cp (F_X12_in (Int32.toInt64 l1) (0 : Int64) (Int32.toInt64 ((I m_self f_Model_lamps) - (1 : Int32)))) fun r1 =>
  g01 r1 <|
  some r1
set_option maxRecDepth 100000 in
theorem cm_X12_isLamp (b : Bool) (l1 : Int32) (I : HI) (J : HJ) : CM mX12_isLamp 2 0 0 [.ref 81, .int l1] (zs b, I, J) (pI (zs b, I, J)) (F_X12_isLamp l1 I J) := by
  refine S.of okX12_isLamp pn_X12 (Nat.le_of_ble_eq_true rfl) ?_
  refine S.sub (lv' := [(0, .ref 81), (1, .int l1)]) [0, 1] rfl ?_
  unfold F_X12_isLamp
  refine S.iload_n 0 1 rfl rfl ?_
  refine S.i2l 1 rfl ?_
  refine S.lconst (0 : Int64) 2 rfl (by decide) ?_
  refine S.aload_n 3 0 rfl rfl ?_
  refine S.getI 4 rfl fo_X12_169 rfl rfl ?_
  refine S.iconst (1 : Int32) 5 rfl (by decide) ?_
  refine S.isub 6 rfl ?_
  refine S.i2l 7 rfl ?_
  refine S.qSI (d := 1) (av := [.long (Int32.toInt64 l1), .long (0 : Int64), .long (Int32.toInt64 ((I m_self f_Model_lamps) - (1 : Int32)))]) (rs := [.long (Int32.toInt64 ((I m_self f_Model_lamps) - (1 : Int32))), .long (0 : Int64), .long (Int32.toInt64 l1)]) 8 rfl co_X12_165 rfl rfl ⟨⟨Nat.le_of_ble_eq_true rfl, Nat.le_of_ble_eq_true rfl⟩, ⟨Nat.le_of_ble_eq_true rfl, Nat.le_of_ble_eq_true rfl⟩, Nat.le_of_ble_eq_true rfl⟩ (cm_X12_in (zs b, I, J) (Int32.toInt64 l1) (0 : Int64) (Int32.toInt64 ((I m_self f_Model_lamps) - (1 : Int32)))) (fun r1 => ?_)
  refine S.gg01 (fun h01 => ?_)
  exact S.iret 9 rfl rfl (nar01 h01) (Nat.le_refl _) (Nat.le_refl _) rfl
def F_X12_lost  (I : HI) (J : HJ) : Option (Int32 × HI × HJ) :=
  lb (ui I m_self f_Model_thrown (1 : Int32)) fun I2 =>
  some ((0 : Int32), I2, J)
set_option maxRecDepth 100000 in
theorem cm_X12_lost (b : Bool)  (I : HI) (J : HJ) : CM mX12_lost 1 0 0 [.ref 81] (zs b, I, J) (fI (zs b)) (F_X12_lost  I J) := by
  refine S.of okX12_lost pn_X12 (Nat.le_of_ble_eq_true rfl) ?_
  refine S.sub (lv' := [(0, .ref 81)]) [0] rfl ?_
  unfold F_X12_lost
  refine S.aload_n 0 0 rfl rfl ?_
  refine S.iconst (1 : Int32) 1 rfl (by decide) ?_
  refine S.putI 2 rfl fo_X12_159 rfl rfl rfl rfl (fun _ hq => by cases hq; exact Or.inl rfl) (fun I2 => ?_)
  refine S.iconst (0 : Int32) 3 rfl (by decide) ?_
  exact S.iret 4 rfl rfl rfl (Nat.le_refl _) (Nat.le_refl _) rfl
def F_X12_lamp (l1 : Int32) (l2 : Int32) (I : HI) (J : HJ) : Option (Int32 × HI × HJ) :=
  lb (ui I m_self f_Model_thrown (0 : Int32)) fun I2 =>
  cp (F_X12_isLamp l1 I2 J) fun r3 =>
  lb (
  cl (F_X12_lost I2 J) fun r5 I6 J7 =>
  some (r5, I6, J7)) fun j4 =>
  if r3 = 0 then
    j4
  else
    cp (F_X12_in (Int32.toInt64 l2) (0 : Int64) (2 : Int64)) fun r8 =>
    if r8 = 0 then
      j4
    else
      if l2 = 0 then
        bx l1 60 <|
        some ((I2 m_lampFrom (Int32.toNatClampNeg l1)), I2, J)
      else
        if l2 = (1 : Int32) then
          bx l1 60 <|
          some ((I2 m_lampTo (Int32.toNatClampNeg l1)), I2, J)
        else
          bx l1 60 <|
          some ((I2 m_volts (Int32.toNatClampNeg l1)), I2, J)
set_option maxRecDepth 100000 in
theorem cm_X12_lamp (b : Bool) (l1 : Int32) (l2 : Int32) (I : HI) (J : HJ) : CM mX12_lamp 3 0 0 [.ref 81, .int l1, .int l2] (zs b, I, J) (fI (zs b)) (F_X12_lamp l1 l2 I J) := by
  refine S.of okX12_lamp pn_X12 (Nat.le_of_ble_eq_true rfl) ?_
  refine S.sub (lv' := [(0, .ref 81), (1, .int l1), (2, .int l2)]) [0, 1, 2] rfl ?_
  unfold F_X12_lamp
  refine S.aload_n 0 0 rfl rfl ?_
  refine S.iconst (0 : Int32) 1 rfl (by decide) ?_
  refine S.putI 2 rfl fo_X12_159 rfl rfl rfl rfl (fun _ hq => by cases hq; exact Or.inl rfl) (fun I2 => ?_)
  refine S.aload_n 3 0 rfl rfl ?_
  refine S.iload_n 4 1 rfl rfl ?_
  refine S.qVI (d := 2) (av := [.int l1]) (rs := [.int l1]) (b := 81) 5 rfl co_X12_234 rfl rfl rfl rfl rfl ⟨⟨Nat.le_of_ble_eq_true rfl, Nat.le_of_ble_eq_true rfl⟩, ⟨Nat.le_of_ble_eq_true rfl, Nat.le_of_ble_eq_true rfl⟩, Nat.le_of_ble_eq_true rfl⟩ (cm_X12_isLamp b l1 I2 J) (fun r3 => ?_)
  refine S.jn (fun j => S (fI (zs b)) mX12_lamp (rmd 3 0 0) 0 0 (0, 0) 25 [(0, .ref 81)] [] (zs b, I2, J) (j)) ?_ (fun j4 hj4 => ?_)
  · refine S.aload_n 13 0 rfl rfl ?_
    refine S.cVI (d := 1) (av := []) (rs := []) (b := 81) 14 rfl co_X12_238 rfl rfl rfl rfl rfl ⟨⟨Nat.le_of_ble_eq_true rfl, Nat.le_of_ble_eq_true rfl⟩, ⟨Nat.le_of_ble_eq_true rfl, Nat.le_of_ble_eq_true rfl⟩, Nat.le_of_ble_eq_true rfl⟩ (cm_X12_lost b I2 J) (fun r5 I6 J7 => ?_)
    exact S.iret 15 rfl rfl rfl (Nat.le_refl _) (Nat.le_refl _) rfl
  · refine S.if_eq 25 6 rfl (by decide) (fun _ => ?_) (fun _ => ?_)
    · refine S.sub (lv' := [(0, .ref 81)]) [0] rfl ?_
      exact hj4
    · refine S.iload_n 7 2 rfl rfl ?_
      refine S.i2l 8 rfl ?_
      refine S.lconst (0 : Int64) 9 rfl (by decide) ?_
      refine S.ldc2 (2 : Int64) 10 rfl ko_X12_226 ?_
      refine S.qSI (d := 1) (av := [.long (Int32.toInt64 l2), .long (0 : Int64), .long (2 : Int64)]) (rs := [.long (2 : Int64), .long (0 : Int64), .long (Int32.toInt64 l2)]) 11 rfl co_X12_165 rfl rfl ⟨⟨Nat.le_of_ble_eq_true rfl, Nat.le_of_ble_eq_true rfl⟩, ⟨Nat.le_of_ble_eq_true rfl, Nat.le_of_ble_eq_true rfl⟩, Nat.le_of_ble_eq_true rfl⟩ (cm_X12_in (zs b, I2, J) (Int32.toInt64 l2) (0 : Int64) (2 : Int64)) (fun r8 => ?_)
      refine S.if_ne 30 12 rfl (by decide) (fun _ => ?_) (fun _ => ?_)
      · refine S.iload_n 16 2 rfl rfl ?_
        refine S.if_ne 43 17 rfl (by decide) (fun _ => ?_) (fun _ => ?_)
        · refine S.iload_n 23 2 rfl rfl ?_
          refine S.iconst (1 : Int32) 24 rfl (by decide) ?_
          refine S.icmp_ne 57 25 rfl (by decide) (fun _ => ?_) (fun _ => ?_)
          · refine S.aload_n 31 0 rfl rfl ?_
            refine S.getR 32 rfl fo_X12_20 rfl rfl rfl ?_
            refine S.iload_n 33 1 rfl rfl ?_
            refine S.iald 34 rfl rfl ?_
            exact S.iret 35 rfl rfl rfl (Nat.le_refl _) (Nat.le_refl _) rfl
          · refine S.aload_n 26 0 rfl rfl ?_
            refine S.getR 27 rfl fo_X12_17 rfl rfl rfl ?_
            refine S.iload_n 28 1 rfl rfl ?_
            refine S.iald 29 rfl rfl ?_
            refine S.goto 63 30 rfl (by decide) ?_
            exact S.iret 35 rfl rfl rfl (Nat.le_refl _) (Nat.le_refl _) rfl
        · refine S.aload_n 18 0 rfl rfl ?_
          refine S.getR 19 rfl fo_X12_13 rfl rfl rfl ?_
          refine S.iload_n 20 1 rfl rfl ?_
          refine S.iald 21 rfl rfl ?_
          refine S.goto 63 22 rfl (by decide) ?_
          exact S.iret 35 rfl rfl rfl (Nat.le_refl _) (Nat.le_refl _) rfl
      · refine S.sub (lv' := [(0, .ref 81)]) [0] rfl ?_
        exact hj4
def F_X12_isWire (l1 : Int32) (I : HI) (J : HJ) : Option Int32 :=
  cp (F_X12_in (Int32.toInt64 l1) (0 : Int64) (Int32.toInt64 ((I m_self f_Model_wide) - (1 : Int32)))) fun r1 =>
  g01 r1 <|
  some r1
set_option maxRecDepth 100000 in
theorem cm_X12_isWire (b : Bool) (l1 : Int32) (I : HI) (J : HJ) : CM mX12_isWire 2 0 0 [.ref 81, .int l1] (zs b, I, J) (pI (zs b, I, J)) (F_X12_isWire l1 I J) := by
  refine S.of okX12_isWire pn_X12 (Nat.le_of_ble_eq_true rfl) ?_
  refine S.sub (lv' := [(0, .ref 81), (1, .int l1)]) [0, 1] rfl ?_
  unfold F_X12_isWire
  refine S.iload_n 0 1 rfl rfl ?_
  refine S.i2l 1 rfl ?_
  refine S.lconst (0 : Int64) 2 rfl (by decide) ?_
  refine S.aload_n 3 0 rfl rfl ?_
  refine S.getI 4 rfl fo_X12_9 rfl rfl ?_
  refine S.iconst (1 : Int32) 5 rfl (by decide) ?_
  refine S.isub 6 rfl ?_
  refine S.i2l 7 rfl ?_
  refine S.qSI (d := 1) (av := [.long (Int32.toInt64 l1), .long (0 : Int64), .long (Int32.toInt64 ((I m_self f_Model_wide) - (1 : Int32)))]) (rs := [.long (Int32.toInt64 ((I m_self f_Model_wide) - (1 : Int32))), .long (0 : Int64), .long (Int32.toInt64 l1)]) 8 rfl co_X12_165 rfl rfl ⟨⟨Nat.le_of_ble_eq_true rfl, Nat.le_of_ble_eq_true rfl⟩, ⟨Nat.le_of_ble_eq_true rfl, Nat.le_of_ble_eq_true rfl⟩, Nat.le_of_ble_eq_true rfl⟩ (cm_X12_in (zs b, I, J) (Int32.toInt64 l1) (0 : Int64) (Int32.toInt64 ((I m_self f_Model_wide) - (1 : Int32)))) (fun r1 => ?_)
  refine S.gg01 (fun h01 => ?_)
  exact S.iret 9 rfl rfl (nar01 h01) (Nat.le_refl _) (Nat.le_refl _) rfl
def F_X12_ohms (l1 : Int32) (I : HI) (J : HJ) : Option (Int32 × HI × HJ) :=
  lb (ui I m_self f_Model_thrown (0 : Int32)) fun I2 =>
  cp (F_X12_isWire l1 I2 J) fun r3 =>
  if r3 = 0 then
    some ((-1 : Int32), I2, J)
  else
    bx l1 10 <|
    some ((I2 m_ohm (Int32.toNatClampNeg l1)), I2, J)
set_option maxRecDepth 100000 in
theorem cm_X12_ohms (b : Bool) (l1 : Int32) (I : HI) (J : HJ) : CM mX12_ohms 3 0 0 [.ref 81, .int l1] (zs b, I, J) (fI (zs b)) (F_X12_ohms l1 I J) := by
  refine S.of okX12_ohms pn_X12 (Nat.le_of_ble_eq_true rfl) ?_
  refine S.sub (lv' := [(0, .ref 81), (1, .int l1)]) [0, 1] rfl ?_
  unfold F_X12_ohms
  refine S.aload_n 0 0 rfl rfl ?_
  refine S.iconst (0 : Int32) 1 rfl (by decide) ?_
  refine S.putI 2 rfl fo_X12_159 rfl rfl rfl rfl (fun _ hq => by cases hq; exact Or.inl rfl) (fun I2 => ?_)
  refine S.aload_n 3 0 rfl rfl ?_
  refine S.iload_n 4 1 rfl rfl ?_
  refine S.qVI (d := 2) (av := [.int l1]) (rs := [.int l1]) (b := 81) 5 rfl co_X12_241 rfl rfl rfl rfl rfl ⟨⟨Nat.le_of_ble_eq_true rfl, Nat.le_of_ble_eq_true rfl⟩, ⟨Nat.le_of_ble_eq_true rfl, Nat.le_of_ble_eq_true rfl⟩, Nat.le_of_ble_eq_true rfl⟩ (cm_X12_isWire b l1 I2 J) (fun r3 => ?_)
  refine S.if_eq 22 6 rfl (by decide) (fun _ => ?_) (fun _ => ?_)
  · refine S.iconst (-1 : Int32) 12 rfl (by decide) ?_
    exact S.iret 13 rfl rfl rfl (Nat.le_refl _) (Nat.le_refl _) rfl
  · refine S.aload_n 7 0 rfl rfl ?_
    refine S.getR 8 rfl fo_X12_23 rfl rfl rfl ?_
    refine S.iload_n 9 1 rfl rfl ?_
    refine S.iald 10 rfl rfl ?_
    refine S.goto 23 11 rfl (by decide) ?_
    exact S.iret 13 rfl rfl rfl (Nat.le_refl _) (Nat.le_refl _) rfl
def F_X12_sheet_L46 (l1 : Int32) (l2 : Int32) (l4 : Int32) (J : HJ) (kx138 : Int32 → HI → Option (Int32 × HI × HJ)) : Nat → Int32 → Int32 → Int32 → HI → Option (Int32 × HI × HJ)
  | 0, _, _, _, _ => none
  | K+1, l5, l6, l7, I =>
    if (I m_self f_Model_lamps) ≤ l7 then
      kx138 l5 I
    else
      lb (fun (y9 : Int32) =>
      lb (fun (y11 : Int32) (y12 : Int32) =>
      bx y11 60 <|
      lb (ui I m_volts (Int32.toNatClampNeg y11) y12) fun I14 =>
      bx l7 60 <|
      lb ((l5 + (I14 m_volts (Int32.toNatClampNeg l7)))) fun x15 =>
      lb ((l6 + l4)) fun x16 =>
      F_X12_sheet_L46 l1 l2 l4 J kx138 K x15 x16 (l7 + 1) I14) fun j13 =>
      lb (fun (y17 : Int32) =>
      j13 y17 (1 : Int32)) fun j18 =>
      if l1 = (3 : Int32) then
        j18 l7
      else
        if l7 < l2 then
          j13 l7 (omax (1 : Int32) (omin (9 : Int32) y9))
        else
          j18 l7) fun j10 =>
      if l1 = 0 then
        j10 (oi2b l6)
      else
        if l1 = (1 : Int32) then
          j10 (oi2s l6)
        else
          j10 l6
set_option maxRecDepth 100000 in
theorem s_X12_sheet_L46 (b : Bool) (l1 : Int32) (l2 : Int32) (l4 : Int32) (J : HJ) (kx138 : Int32 → HI → Option (Int32 × HI × HJ)) (hkx138 : ∀ (y5 : Int32) (I1 : HI), S (fI (zs b)) mX12_sheet (rmd 2 0 0) 0 0 (0, 0) 138 [(1, .int l1), (5, .int y5)] [] (zs b, I1, J) (kx138 y5 I1)) : ∀ (K : Nat) (l5 : Int32) (l6 : Int32) (l7 : Int32) (I : HI), S (fI (zs b)) mX12_sheet (rmd 2 0 0) 0 0 (0, 0) 46 [(0, .ref 81), (1, .int l1), (2, .int l2), (4, .int l4), (5, .int l5), (6, .int l6), (7, .int l7)] [] (zs b, I, J) (F_X12_sheet_L46 l1 l2 l4 J kx138 K l5 l6 l7 I) := by
  intro K
  induction K with
  | zero => intro l5 l6 l7 I; exact S.none
  | succ K ih =>
    intro l5 l6 l7 I
    rw [F_X12_sheet_L46]
    refine S.iload 27 6 rfl rfl ?_
    refine S.aload_n 28 0 rfl rfl ?_
    refine S.getI 29 rfl fo_X12_169 rfl rfl ?_
    refine S.icmp_ge 138 30 rfl (by decide) (fun _ => ?_) (fun _ => ?_)
    · refine S.sub (lv' := [(1, .int l1), (5, .int l5)]) [1, 4] rfl ?_
      exact hkx138 _ _
    · refine S.iload_n 31 1 rfl rfl ?_
      refine S.jn (fun j => ∀ (y9 : Int32), S (fI (zs b)) mX12_sheet (rmd 2 0 0) 0 0 (0, 0) 78 [(0, .ref 81), (1, .int l1), (2, .int l2), (4, .int l4), (5, .int l5), (6, .int l6), (7, .int l7)] [.int y9] (zs b, I, J) (j y9)) (fun y9 => ?_) (fun j10 hj10 => ?_)
      · refine S.istore [(8, .int y9), (0, .ref 81), (1, .int l1), (2, .int l2), (4, .int l4), (5, .int l5), (6, .int l6), (7, .int l7)] 43 rfl (by decide) rfl ?_
        refine S.aload_n 44 1 rfl rfl ?_
        refine S.getR 45 rfl fo_X12_20 rfl rfl rfl ?_
        refine S.iload 46 7 rfl rfl ?_
        refine S.iload_n 47 2 rfl rfl ?_
        refine S.iconst (3 : Int32) 48 rfl (by decide) ?_
        refine S.jn (fun j => ∀ (y11 : Int32) (y12 : Int32), S (fI (zs b)) mX12_sheet (rmd 2 0 0) 0 0 (0, 0) 112 [(0, .ref 81), (1, .int l1), (2, .int l2), (4, .int l4), (5, .int l5), (6, .int l6), (7, .int l7)] [.int y12, .int y11, .ref 84] (zs b, I, J) (j y11 y12)) (fun y11 y12 => ?_) (fun j13 hj13 => ?_)
        · refine S.iast 60 rfl rfl (fun I14 => ?_)
          refine S.iload 61 4 rfl rfl ?_
          refine S.aload_n 62 0 rfl rfl ?_
          refine S.getR 63 rfl fo_X12_20 rfl rfl rfl ?_
          refine S.iload 64 6 rfl rfl ?_
          refine S.iald 65 rfl rfl ?_
          refine S.iadd 66 rfl ?_
          refine S.nmi (fun x15 => ?_)
          refine S.istore [(5, .int x15), (0, .ref 81), (1, .int l1), (2, .int l2), (4, .int l4), (6, .int l6), (7, .int l7)] 67 rfl (by decide) rfl ?_
          refine S.iload 68 5 rfl rfl ?_
          refine S.iload 69 4 rfl rfl ?_
          refine S.iadd 70 rfl ?_
          refine S.nmi (fun x16 => ?_)
          refine S.istore [(6, .int x16), (5, .int x15), (0, .ref 81), (1, .int l1), (2, .int l2), (4, .int l4), (7, .int l7)] 71 rfl (by decide) rfl ?_
          refine S.iinc (l7 + 1) [(7, .int (l7 + 1)), (6, .int x16), (5, .int x15), (0, .ref 81), (1, .int l1), (2, .int l2), (4, .int l4)] 72 6 rfl rfl rfl (by decide) rfl ?_
          refine S.goto 46 73 rfl (by decide) ?_
          refine S.sub (lv' := [(0, .ref 81), (1, .int l1), (2, .int l2), (4, .int l4), (5, .int x15), (6, .int x16), (7, .int (l7 + 1))]) [3, 4, 5, 6, 2, 1, 0] rfl ?_
          exact ih _ _ _ _
        · refine S.jn (fun j => ∀ (y17 : Int32), S (fI (zs b)) mX12_sheet (rmd 2 0 0) 0 0 (0, 0) 97 [(0, .ref 81), (1, .int l1), (2, .int l2), (4, .int l4), (5, .int l5), (6, .int l6), (7, .int l7)] [.int y17, .ref 84] (zs b, I, J) (j y17)) (fun y17 => ?_) (fun j18 hj18 => ?_)
          · refine S.iconst (1 : Int32) 53 rfl (by decide) ?_
            refine S.goto 112 54 rfl (by decide) ?_
            exact hj13 _ _
          · refine S.icmp_eq 97 49 rfl (by decide) (fun _ => ?_) (fun _ => ?_)
            · refine S.sub (lv' := [(0, .ref 81), (1, .int l1), (2, .int l2), (4, .int l4), (5, .int l5), (6, .int l6), (7, .int l7)]) [1, 2, 3, 4, 5, 6, 7] rfl ?_
              exact hj18 _
            · refine S.iload 50 7 rfl rfl ?_
              refine S.iload_n 51 3 rfl rfl ?_
              refine S.icmp_lt 101 52 rfl (by decide) (fun _ => ?_) (fun _ => ?_)
              · refine S.iconst (1 : Int32) 55 rfl (by decide) ?_
                refine S.bipush (9 : Int32) 56 rfl (by decide) ?_
                refine S.iload 57 0 rfl rfl ?_
                refine S.mmin 58 rfl co_X12_244 ⟨Nat.le_of_ble_eq_true rfl, Nat.le_of_ble_eq_true rfl, Nat.le_of_ble_eq_true rfl, Nat.le_of_ble_eq_true rfl, Nat.le_of_ble_eq_true rfl⟩ ?_
                refine S.mmax 59 rfl co_X12_250 ⟨Nat.le_of_ble_eq_true rfl, Nat.le_of_ble_eq_true rfl, Nat.le_of_ble_eq_true rfl, Nat.le_of_ble_eq_true rfl, Nat.le_of_ble_eq_true rfl⟩ ?_
                refine S.sub (lv' := [(0, .ref 81), (1, .int l1), (2, .int l2), (4, .int l4), (5, .int l5), (6, .int l6), (7, .int l7)]) [1, 2, 3, 4, 5, 6, 7] rfl ?_
                exact hj13 _ _
              · refine S.sub (lv' := [(0, .ref 81), (1, .int l1), (2, .int l2), (4, .int l4), (5, .int l5), (6, .int l6), (7, .int l7)]) [1, 2, 3, 4, 5, 6, 7] rfl ?_
                exact hj18 _
      · refine S.if_ne 65 32 rfl (by decide) (fun _ => ?_) (fun _ => ?_)
        · refine S.iload_n 36 1 rfl rfl ?_
          refine S.iconst (1 : Int32) 37 rfl (by decide) ?_
          refine S.icmp_ne 76 38 rfl (by decide) (fun _ => ?_) (fun _ => ?_)
          · refine S.iload 42 5 rfl rfl ?_
            exact hj10 _
          · refine S.iload 39 5 rfl rfl ?_
            refine S.i2s 40 rfl ?_
            refine S.goto 78 41 rfl (by decide) ?_
            exact hj10 _
        · refine S.iload 33 5 rfl rfl ?_
          refine S.i2b 34 rfl ?_
          refine S.goto 78 35 rfl (by decide) ?_
          exact hj10 _
def F_X12_sheet (l1 : Int32) (l2 : Int32) (l3 : Int32) (l4 : Int32) (I : HI) (J : HJ) : Option (Int32 × HI × HJ) :=
  lb (ui I m_self f_Model_thrown (0 : Int32)) fun I6 =>
  cp (F_X12_in (Int32.toInt64 l1) (0 : Int64) (3 : Int64)) fun r7 =>
  if r7 = 0 then
    some ((-1 : Int32), I6, J)
  else
    if l2 ≤ (60 : Int32) then
      lb (
      F_X12_sheet_L46 l1 l2 l4 J (fun (y19 : Int32) (I20 : HI) =>
      if l1 = (3 : Int32) then
        some ((-3 : Int32), I20, J)
      else
        some (y19, I20, J)) bgf (0 : Int32) l3 (0 : Int32) I6) fun j8 =>
      if (3 : Int32) ≤ l1 then
        j8
      else
        if 0 ≤ l2 then
          j8
        else
          some ((-2 : Int32), I6, J)
    else
      some ((-1 : Int32), I6, J)
set_option maxRecDepth 100000 in
theorem cm_X12_sheet (b : Bool) (l1 : Int32) (l2 : Int32) (l3 : Int32) (l4 : Int32) (I : HI) (J : HJ) : CM mX12_sheet 2 0 0 [.ref 81, .int l1, .int l2, .int l3, .int l4] (zs b, I, J) (fI (zs b)) (F_X12_sheet l1 l2 l3 l4 I J) := by
  refine S.of okX12_sheet pn_X12 (Nat.le_of_ble_eq_true rfl) ?_
  refine S.sub (lv' := [(0, .ref 81), (1, .int l1), (2, .int l2), (3, .int l3), (4, .int l4)]) [0, 1, 2, 3, 4] rfl ?_
  unfold F_X12_sheet
  refine S.aload_n 0 0 rfl rfl ?_
  refine S.iconst (0 : Int32) 1 rfl (by decide) ?_
  refine S.putI 2 rfl fo_X12_159 rfl rfl rfl rfl (fun _ hq => by cases hq; exact Or.inl rfl) (fun I6 => ?_)
  refine S.iload_n 3 1 rfl rfl ?_
  refine S.i2l 4 rfl ?_
  refine S.lconst (0 : Int64) 5 rfl (by decide) ?_
  refine S.ldc2 (3 : Int64) 6 rfl ko_X12_230 ?_
  refine S.qSI (d := 1) (av := [.long (Int32.toInt64 l1), .long (0 : Int64), .long (3 : Int64)]) (rs := [.long (3 : Int64), .long (0 : Int64), .long (Int32.toInt64 l1)]) 7 rfl co_X12_165 rfl rfl ⟨⟨Nat.le_of_ble_eq_true rfl, Nat.le_of_ble_eq_true rfl⟩, ⟨Nat.le_of_ble_eq_true rfl, Nat.le_of_ble_eq_true rfl⟩, Nat.le_of_ble_eq_true rfl⟩ (cm_X12_in (zs b, I6, J) (Int32.toInt64 l1) (0 : Int64) (3 : Int64)) (fun r7 => ?_)
  refine S.if_eq 23 8 rfl (by decide) (fun _ => ?_) (fun _ => ?_)
  · refine S.iconst (-1 : Int32) 12 rfl (by decide) ?_
    exact S.iret 13 rfl rfl rfl (Nat.le_refl _) (Nat.le_refl _) rfl
  · refine S.iload_n 9 2 rfl rfl ?_
    refine S.bipush (60 : Int32) 10 rfl (by decide) ?_
    refine S.icmp_le 25 11 rfl (by decide) (fun _ => ?_) (fun _ => ?_)
    · refine S.iload_n 14 1 rfl rfl ?_
      refine S.iconst (3 : Int32) 15 rfl (by decide) ?_
      refine S.jn (fun j => S (fI (zs b)) mX12_sheet (rmd 2 0 0) 0 0 (0, 0) 37 [(0, .ref 81), (1, .int l1), (2, .int l2), (3, .int l3), (4, .int l4)] [] (zs b, I6, J) (j)) ?_ (fun j8 hj8 => ?_)
      · refine S.iconst (0 : Int32) 21 rfl (by decide) ?_
        refine S.istore [(5, .int (0 : Int32)), (0, .ref 81), (1, .int l1), (2, .int l2), (3, .int l3), (4, .int l4)] 22 rfl (by decide) rfl ?_
        refine S.iload_n 23 4 rfl rfl ?_
        refine S.istore [(6, .int l3), (5, .int (0 : Int32)), (0, .ref 81), (1, .int l1), (2, .int l2), (3, .int l3), (4, .int l4)] 24 rfl (by decide) rfl ?_
        refine S.iconst (0 : Int32) 25 rfl (by decide) ?_
        refine S.istore [(7, .int (0 : Int32)), (6, .int l3), (5, .int (0 : Int32)), (0, .ref 81), (1, .int l1), (2, .int l2), (3, .int l3), (4, .int l4)] 26 rfl (by decide) rfl ?_
        refine S.sub (lv' := [(0, .ref 81), (1, .int l1), (2, .int l2), (4, .int l4), (5, .int (0 : Int32)), (6, .int l3), (7, .int (0 : Int32))]) [3, 4, 5, 7, 2, 1, 0] rfl ?_
        refine s_X12_sheet_L46 b _ _ _ _ _ (fun y19 I20 => ?_) bgf _ _ _ _
        refine S.iload_n 74 0 rfl rfl ?_
        refine S.iconst (3 : Int32) 75 rfl (by decide) ?_
        refine S.icmp_ne 148 76 rfl (by decide) (fun _ => ?_) (fun _ => ?_)
        · refine S.iload 79 1 rfl rfl ?_
          exact S.iret 80 rfl rfl rfl (Nat.le_refl _) (Nat.le_refl _) rfl
        · refine S.bipush (-3 : Int32) 77 rfl (by decide) ?_
          refine S.goto 150 78 rfl (by decide) ?_
          exact S.iret 80 rfl rfl rfl (Nat.le_refl _) (Nat.le_refl _) rfl
      · refine S.icmp_ge 37 16 rfl (by decide) (fun _ => ?_) (fun _ => ?_)
        · exact hj8
        · refine S.iload_n 17 2 rfl rfl ?_
          refine S.if_ge 37 18 rfl (by decide) (fun _ => ?_) (fun _ => ?_)
          · exact hj8
          · refine S.bipush (-2 : Int32) 19 rfl (by decide) ?_
            exact S.iret 20 rfl rfl rfl (Nat.le_refl _) (Nat.le_refl _) rfl
    · refine S.iconst (-1 : Int32) 12 rfl (by decide) ?_
      exact S.iret 13 rfl rfl rfl (Nat.le_refl _) (Nat.le_refl _) rfl
def F_X12_change (l1 : Int32) (l2 : Int32) (I : HI) (J : HJ) : Option (Unit × HI × HJ) :=
  bx l1 60 <|
  lb ((I m_lampFrom (Int32.toNatClampNeg l1))) fun x7 =>
  bx l1 60 <|
  lb ((I m_lampTo (Int32.toNatClampNeg l1))) fun x8 =>
  bx l2 60 <|
  bx l1 60 <|
  lb (ui I m_lampFrom (Int32.toNatClampNeg l1) (I m_lampFrom (Int32.toNatClampNeg l2))) fun I9 =>
  bx l2 60 <|
  bx l1 60 <|
  lb (ui I9 m_lampTo (Int32.toNatClampNeg l1) (I9 m_lampTo (Int32.toNatClampNeg l2))) fun I10 =>
  bx l2 60 <|
  lb (ui I10 m_lampFrom (Int32.toNatClampNeg l2) x7) fun I11 =>
  bx l2 60 <|
  lb (ui I11 m_lampTo (Int32.toNatClampNeg l2) x8) fun I12 =>
  some ((), I12, J)
set_option maxRecDepth 100000 in
theorem cm_X12_change (b : Bool) (l1 : Int32) (l2 : Int32) (I : HI) (J : HJ) : CM mX12_change 1 0 0 [.ref 81, .int l1, .int l2] (zs b, I, J) (fV (zs b)) (F_X12_change l1 l2 I J) := by
  refine S.of okX12_change pn_X12 (Nat.le_of_ble_eq_true rfl) ?_
  refine S.sub (lv' := [(0, .ref 81), (1, .int l1), (2, .int l2)]) [0, 1, 2] rfl ?_
  unfold F_X12_change
  refine S.aload_n 0 0 rfl rfl ?_
  refine S.getR 1 rfl fo_X12_13 rfl rfl rfl ?_
  refine S.iload_n 2 1 rfl rfl ?_
  refine S.iald 3 rfl rfl ?_
  refine S.nmi (fun x7 => ?_)
  refine S.istore_n [(3, .int x7), (0, .ref 81), (1, .int l1), (2, .int l2)] 4 rfl (by decide) rfl ?_
  refine S.aload_n 5 1 rfl rfl ?_
  refine S.getR 6 rfl fo_X12_17 rfl rfl rfl ?_
  refine S.iload_n 7 2 rfl rfl ?_
  refine S.iald 8 rfl rfl ?_
  refine S.nmi (fun x8 => ?_)
  refine S.istore [(4, .int x8), (3, .int x7), (0, .ref 81), (1, .int l1), (2, .int l2)] 9 rfl (by decide) rfl ?_
  refine S.aload_n 10 2 rfl rfl ?_
  refine S.getR 11 rfl fo_X12_13 rfl rfl rfl ?_
  refine S.iload_n 12 3 rfl rfl ?_
  refine S.aload_n 13 2 rfl rfl ?_
  refine S.getR 14 rfl fo_X12_13 rfl rfl rfl ?_
  refine S.iload_n 15 4 rfl rfl ?_
  refine S.iald 16 rfl rfl ?_
  refine S.iast 17 rfl rfl (fun I9 => ?_)
  refine S.aload_n 18 2 rfl rfl ?_
  refine S.getR 19 rfl fo_X12_17 rfl rfl rfl ?_
  refine S.iload_n 20 3 rfl rfl ?_
  refine S.aload_n 21 2 rfl rfl ?_
  refine S.getR 22 rfl fo_X12_17 rfl rfl rfl ?_
  refine S.iload_n 23 4 rfl rfl ?_
  refine S.iald 24 rfl rfl ?_
  refine S.iast 25 rfl rfl (fun I10 => ?_)
  refine S.aload_n 26 2 rfl rfl ?_
  refine S.getR 27 rfl fo_X12_13 rfl rfl rfl ?_
  refine S.iload_n 28 4 rfl rfl ?_
  refine S.iload_n 29 1 rfl rfl ?_
  refine S.iast 30 rfl rfl (fun I11 => ?_)
  refine S.aload_n 31 2 rfl rfl ?_
  refine S.getR 32 rfl fo_X12_17 rfl rfl rfl ?_
  refine S.iload_n 33 4 rfl rfl ?_
  refine S.iload 34 0 rfl rfl ?_
  refine S.iast 35 rfl rfl (fun I12 => ?_)
  exact S.vret 36 rfl rfl (Nat.le_refl _) (Nat.le_refl _) rfl
def F_X12_swap (l1 : Int32) (l2 : Int32) (I : HI) (J : HJ) : Option (Int32 × HI × HJ) :=
  lb (ui I m_self f_Model_thrown (0 : Int32)) fun I2 =>
  cp (F_X12_isLamp l1 I2 J) fun r3 =>
  if r3 = 0 then
    some ((0 : Int32), I2, J)
  else
    cp (F_X12_isLamp l2 I2 J) fun r4 =>
    if r4 = 0 then
      some ((0 : Int32), I2, J)
    else
      if l1 = l2 then
        some ((0 : Int32), I2, J)
      else
        cl (F_X12_change l1 l2 I2 J) fun _ I5 J6 =>
        some ((1 : Int32), I5, J6)
set_option maxRecDepth 100000 in
theorem cm_X12_swap (b : Bool) (l1 : Int32) (l2 : Int32) (I : HI) (J : HJ) : CM mX12_swap 3 0 0 [.ref 81, .int l1, .int l2] (zs b, I, J) (fI (zs b)) (F_X12_swap l1 l2 I J) := by
  refine S.of okX12_swap pn_X12 (Nat.le_of_ble_eq_true rfl) ?_
  refine S.sub (lv' := [(0, .ref 81), (1, .int l1), (2, .int l2)]) [0, 1, 2] rfl ?_
  unfold F_X12_swap
  refine S.aload_n 0 0 rfl rfl ?_
  refine S.iconst (0 : Int32) 1 rfl (by decide) ?_
  refine S.putI 2 rfl fo_X12_159 rfl rfl rfl rfl (fun _ hq => by cases hq; exact Or.inl rfl) (fun I2 => ?_)
  refine S.aload_n 3 0 rfl rfl ?_
  refine S.iload_n 4 1 rfl rfl ?_
  refine S.qVI (d := 2) (av := [.int l1]) (rs := [.int l1]) (b := 81) 5 rfl co_X12_234 rfl rfl rfl rfl rfl ⟨⟨Nat.le_of_ble_eq_true rfl, Nat.le_of_ble_eq_true rfl⟩, ⟨Nat.le_of_ble_eq_true rfl, Nat.le_of_ble_eq_true rfl⟩, Nat.le_of_ble_eq_true rfl⟩ (cm_X12_isLamp b l1 I2 J) (fun r3 => ?_)
  refine S.if_eq 26 6 rfl (by decide) (fun _ => ?_) (fun _ => ?_)
  · refine S.iconst (0 : Int32) 14 rfl (by decide) ?_
    exact S.iret 15 rfl rfl rfl (Nat.le_refl _) (Nat.le_refl _) rfl
  · refine S.aload_n 7 0 rfl rfl ?_
    refine S.iload_n 8 2 rfl rfl ?_
    refine S.qVI (d := 2) (av := [.int l2]) (rs := [.int l2]) (b := 81) 9 rfl co_X12_234 rfl rfl rfl rfl rfl ⟨⟨Nat.le_of_ble_eq_true rfl, Nat.le_of_ble_eq_true rfl⟩, ⟨Nat.le_of_ble_eq_true rfl, Nat.le_of_ble_eq_true rfl⟩, Nat.le_of_ble_eq_true rfl⟩ (cm_X12_isLamp b l2 I2 J) (fun r4 => ?_)
    refine S.if_eq 26 10 rfl (by decide) (fun _ => ?_) (fun _ => ?_)
    · refine S.iconst (0 : Int32) 14 rfl (by decide) ?_
      exact S.iret 15 rfl rfl rfl (Nat.le_refl _) (Nat.le_refl _) rfl
    · refine S.iload_n 11 1 rfl rfl ?_
      refine S.iload_n 12 2 rfl rfl ?_
      refine S.icmp_ne 28 13 rfl (by decide) (fun _ => ?_) (fun _ => ?_)
      · refine S.aload_n 16 0 rfl rfl ?_
        refine S.iload_n 17 1 rfl rfl ?_
        refine S.iload_n 18 2 rfl rfl ?_
        refine S.cVV (d := 1) (av := [.int l1, .int l2]) (rs := [.int l2, .int l1]) (b := 81) 19 rfl co_X12_253 rfl rfl rfl rfl rfl ⟨⟨Nat.le_of_ble_eq_true rfl, Nat.le_of_ble_eq_true rfl⟩, ⟨Nat.le_of_ble_eq_true rfl, Nat.le_of_ble_eq_true rfl⟩, Nat.le_of_ble_eq_true rfl⟩ (cm_X12_change b l1 l2 I2 J) (fun _ I5 J6 => ?_)
        refine S.iconst (1 : Int32) 20 rfl (by decide) ?_
        exact S.iret 21 rfl rfl rfl (Nat.le_refl _) (Nat.le_refl _) rfl
      · refine S.iconst (0 : Int32) 14 rfl (by decide) ?_
        exact S.iret 15 rfl rfl rfl (Nat.le_refl _) (Nat.le_refl _) rfl
def F_X12_isSetting (l1 : Int32) (l2 : Int32) (I : HI) (J : HJ) : Option Int32 :=
  lb (((oshl (1 : Int32) (I m_self f_Model_wide)) - (1 : Int32))) fun x2 =>
  cp (F_X12_in (Int32.toInt64 l1) (0 : Int64) (Int32.toInt64 x2)) fun r3 =>
  if r3 = 0 then
    some (0 : Int32)
  else
    cp (F_X12_in (Int32.toInt64 l2) (0 : Int64) (Int32.toInt64 x2)) fun r4 =>
    if r4 = 0 then
      some (0 : Int32)
    else
      if (l1 &&& l2) = 0 then
        some (1 : Int32)
      else
        some (0 : Int32)
set_option maxRecDepth 100000 in
theorem cm_X12_isSetting (b : Bool) (l1 : Int32) (l2 : Int32) (I : HI) (J : HJ) : CM mX12_isSetting 2 0 0 [.ref 81, .int l1, .int l2] (zs b, I, J) (pI (zs b, I, J)) (F_X12_isSetting l1 l2 I J) := by
  refine S.of okX12_isSetting pn_X12 (Nat.le_of_ble_eq_true rfl) ?_
  refine S.sub (lv' := [(0, .ref 81), (1, .int l1), (2, .int l2)]) [0, 1, 2] rfl ?_
  unfold F_X12_isSetting
  refine S.iconst (1 : Int32) 0 rfl (by decide) ?_
  refine S.aload_n 1 0 rfl rfl ?_
  refine S.getI 2 rfl fo_X12_9 rfl rfl ?_
  refine S.ishl 3 rfl ?_
  refine S.iconst (1 : Int32) 4 rfl (by decide) ?_
  refine S.isub 5 rfl ?_
  refine S.nmi (fun x2 => ?_)
  refine S.istore_n [(3, .int x2), (0, .ref 81), (1, .int l1), (2, .int l2)] 6 rfl (by decide) rfl ?_
  refine S.iload_n 7 2 rfl rfl ?_
  refine S.i2l 8 rfl ?_
  refine S.lconst (0 : Int64) 9 rfl (by decide) ?_
  refine S.iload_n 10 0 rfl rfl ?_
  refine S.i2l 11 rfl ?_
  refine S.qSI (d := 1) (av := [.long (Int32.toInt64 l1), .long (0 : Int64), .long (Int32.toInt64 x2)]) (rs := [.long (Int32.toInt64 x2), .long (0 : Int64), .long (Int32.toInt64 l1)]) 12 rfl co_X12_165 rfl rfl ⟨⟨Nat.le_of_ble_eq_true rfl, Nat.le_of_ble_eq_true rfl⟩, ⟨Nat.le_of_ble_eq_true rfl, Nat.le_of_ble_eq_true rfl⟩, Nat.le_of_ble_eq_true rfl⟩ (cm_X12_in (zs b, I, J) (Int32.toInt64 l1) (0 : Int64) (Int32.toInt64 x2)) (fun r3 => ?_)
  refine S.if_eq 41 13 rfl (by decide) (fun _ => ?_) (fun _ => ?_)
  · refine S.iconst (0 : Int32) 27 rfl (by decide) ?_
    exact S.iret 28 rfl rfl rfl (Nat.le_refl _) (Nat.le_refl _) rfl
  · refine S.iload_n 14 3 rfl rfl ?_
    refine S.i2l 15 rfl ?_
    refine S.lconst (0 : Int64) 16 rfl (by decide) ?_
    refine S.iload_n 17 0 rfl rfl ?_
    refine S.i2l 18 rfl ?_
    refine S.qSI (d := 1) (av := [.long (Int32.toInt64 l2), .long (0 : Int64), .long (Int32.toInt64 x2)]) (rs := [.long (Int32.toInt64 x2), .long (0 : Int64), .long (Int32.toInt64 l2)]) 19 rfl co_X12_165 rfl rfl ⟨⟨Nat.le_of_ble_eq_true rfl, Nat.le_of_ble_eq_true rfl⟩, ⟨Nat.le_of_ble_eq_true rfl, Nat.le_of_ble_eq_true rfl⟩, Nat.le_of_ble_eq_true rfl⟩ (cm_X12_in (zs b, I, J) (Int32.toInt64 l2) (0 : Int64) (Int32.toInt64 x2)) (fun r4 => ?_)
    refine S.if_eq 41 20 rfl (by decide) (fun _ => ?_) (fun _ => ?_)
    · refine S.iconst (0 : Int32) 27 rfl (by decide) ?_
      exact S.iret 28 rfl rfl rfl (Nat.le_refl _) (Nat.le_refl _) rfl
    · refine S.iload_n 21 2 rfl rfl ?_
      refine S.iload_n 22 3 rfl rfl ?_
      refine S.iand 23 rfl ?_
      refine S.if_ne 41 24 rfl (by decide) (fun _ => ?_) (fun _ => ?_)
      · refine S.iconst (0 : Int32) 27 rfl (by decide) ?_
        exact S.iret 28 rfl rfl rfl (Nat.le_refl _) (Nat.le_refl _) rfl
      · refine S.iconst (1 : Int32) 25 rfl (by decide) ?_
        refine S.goto 42 26 rfl (by decide) ?_
        exact S.iret 28 rfl rfl rfl (Nat.le_refl _) (Nat.le_refl _) rfl
def F_X12_touchFirst  (I : HI) (J : HJ) : Option Int32 :=
  some ((1 : Int32) + (I m_self f_Model_wide))
set_option maxRecDepth 100000 in
theorem cm_X12_touchFirst (b : Bool)  (I : HI) (J : HJ) : CM mX12_touchFirst 1 0 0 [.ref 81] (zs b, I, J) (pI (zs b, I, J)) (F_X12_touchFirst  I J) := by
  refine S.of okX12_touchFirst pn_X12 (Nat.le_of_ble_eq_true rfl) ?_
  refine S.sub (lv' := [(0, .ref 81)]) [0] rfl ?_
  unfold F_X12_touchFirst
  refine S.iconst (1 : Int32) 0 rfl (by decide) ?_
  refine S.aload_n 1 0 rfl rfl ?_
  refine S.getI 2 rfl fo_X12_9 rfl rfl ?_
  refine S.iadd 3 rfl ?_
  exact S.iret 4 rfl rfl rfl (Nat.le_refl _) (Nat.le_refl _) rfl
def F_X12_turnedFirst  (I : HI) (J : HJ) : Option Int32 :=
  nzi (2 : Int32) <|
  some (((1 : Int32) + (I m_self f_Model_wide)) + (((I m_self f_Model_wide) * ((I m_self f_Model_wide) - (1 : Int32))) / (2 : Int32)))
set_option maxRecDepth 100000 in
theorem cm_X12_turnedFirst (b : Bool)  (I : HI) (J : HJ) : CM mX12_turnedFirst 1 0 0 [.ref 81] (zs b, I, J) (pI (zs b, I, J)) (F_X12_turnedFirst  I J) := by
  refine S.of okX12_turnedFirst pn_X12 (Nat.le_of_ble_eq_true rfl) ?_
  refine S.sub (lv' := [(0, .ref 81)]) [0] rfl ?_
  unfold F_X12_turnedFirst
  refine S.iconst (1 : Int32) 0 rfl (by decide) ?_
  refine S.aload_n 1 0 rfl rfl ?_
  refine S.getI 2 rfl fo_X12_9 rfl rfl ?_
  refine S.iadd 3 rfl ?_
  refine S.aload_n 4 0 rfl rfl ?_
  refine S.getI 5 rfl fo_X12_9 rfl rfl ?_
  refine S.aload_n 6 0 rfl rfl ?_
  refine S.getI 7 rfl fo_X12_9 rfl rfl ?_
  refine S.iconst (1 : Int32) 8 rfl (by decide) ?_
  refine S.isub 9 rfl ?_
  refine S.imul 10 rfl ?_
  refine S.iconst (2 : Int32) 11 rfl (by decide) ?_
  refine S.idiv 12 rfl ?_
  refine S.iadd 13 rfl ?_
  exact S.iret 14 rfl rfl rfl (Nat.le_refl _) (Nat.le_refl _) rfl
def F_X12_kindOf (l1 : Int32) (I : HI) (J : HJ) : Option Int32 :=
  if l1 = 0 then
    some (0 : Int32)
  else
    cp (F_X12_touchFirst I J) fun r1 =>
    if r1 ≤ l1 then
      cp (F_X12_turnedFirst I J) fun r2 =>
      if r2 ≤ l1 then
        some (3 : Int32)
      else
        some (2 : Int32)
    else
      some (1 : Int32)
set_option maxRecDepth 100000 in
theorem cm_X12_kindOf (b : Bool) (l1 : Int32) (I : HI) (J : HJ) : CM mX12_kindOf 2 0 0 [.ref 81, .int l1] (zs b, I, J) (pI (zs b, I, J)) (F_X12_kindOf l1 I J) := by
  refine S.of okX12_kindOf pn_X12 (Nat.le_of_ble_eq_true rfl) ?_
  refine S.sub (lv' := [(0, .ref 81), (1, .int l1)]) [0, 1] rfl ?_
  unfold F_X12_kindOf
  refine S.iload_n 0 1 rfl rfl ?_
  refine S.if_ne 8 1 rfl (by decide) (fun _ => ?_) (fun _ => ?_)
  · refine S.iload_n 4 1 rfl rfl ?_
    refine S.aload_n 5 0 rfl rfl ?_
    refine S.qVI (d := 1) (av := []) (rs := []) (b := 81) 6 rfl co_X12_263 rfl rfl rfl rfl rfl ⟨⟨Nat.le_of_ble_eq_true rfl, Nat.le_of_ble_eq_true rfl⟩, ⟨Nat.le_of_ble_eq_true rfl, Nat.le_of_ble_eq_true rfl⟩, Nat.le_of_ble_eq_true rfl⟩ (cm_X12_touchFirst b I J) (fun r1 => ?_)
    refine S.icmp_ge 20 7 rfl (by decide) (fun _ => ?_) (fun _ => ?_)
    · refine S.iload_n 10 1 rfl rfl ?_
      refine S.aload_n 11 0 rfl rfl ?_
      refine S.qVI (d := 1) (av := []) (rs := []) (b := 81) 12 rfl co_X12_257 rfl rfl rfl rfl rfl ⟨⟨Nat.le_of_ble_eq_true rfl, Nat.le_of_ble_eq_true rfl⟩, ⟨Nat.le_of_ble_eq_true rfl, Nat.le_of_ble_eq_true rfl⟩, Nat.le_of_ble_eq_true rfl⟩ (cm_X12_turnedFirst b I J) (fun r2 => ?_)
      refine S.icmp_ge 32 13 rfl (by decide) (fun _ => ?_) (fun _ => ?_)
      · refine S.iconst (3 : Int32) 16 rfl (by decide) ?_
        exact S.iret 17 rfl rfl rfl (Nat.le_refl _) (Nat.le_refl _) rfl
      · refine S.iconst (2 : Int32) 14 rfl (by decide) ?_
        refine S.goto 33 15 rfl (by decide) ?_
        exact S.iret 17 rfl rfl rfl (Nat.le_refl _) (Nat.le_refl _) rfl
    · refine S.iconst (1 : Int32) 8 rfl (by decide) ?_
      refine S.goto 33 9 rfl (by decide) ?_
      exact S.iret 17 rfl rfl rfl (Nat.le_refl _) (Nat.le_refl _) rfl
  · refine S.iconst (0 : Int32) 2 rfl (by decide) ?_
    refine S.goto 33 3 rfl (by decide) ?_
    exact S.iret 17 rfl rfl rfl (Nat.le_refl _) (Nat.le_refl _) rfl
def F_X12_findFault_L62 (J : HJ) (kx104 : Int32 → HI → Option (Unit × HI × HJ)) : Nat → Int32 → HI → Option (Unit × HI × HJ)
  | 0, _, _ => none
  | K+1, l3, I =>
    if l3 < (((I m_self f_Model_wide) - (1 : Int32)) - (I m_self f_Model_faultA)) then
      kx104 l3 I
    else
      lb ((l3 - (((I m_self f_Model_wide) - (1 : Int32)) - (I m_self f_Model_faultA)))) fun x14 =>
      lb (ui I m_self f_Model_faultA ((I m_self f_Model_faultA) + (1 : Int32))) fun I15 =>
      F_X12_findFault_L62 J kx104 K x14 I15
set_option maxRecDepth 100000 in
theorem s_X12_findFault_L62 (b : Bool) (J : HJ) (kx104 : Int32 → HI → Option (Unit × HI × HJ)) (hkx104 : ∀ (y3 : Int32) (I1 : HI), S (fV (zs b)) mX12_findFault (rmd 3 0 0) 0 0 (0, 0) 104 [(0, .ref 81), (3, .int y3)] [] (zs b, I1, J) (kx104 y3 I1)) : ∀ (K : Nat) (l3 : Int32) (I : HI), S (fV (zs b)) mX12_findFault (rmd 3 0 0) 0 0 (0, 0) 62 [(0, .ref 81), (3, .int l3)] [] (zs b, I, J) (F_X12_findFault_L62 J kx104 K l3 I) := by
  intro K
  induction K with
  | zero => intro l3 I; exact S.none
  | succ K ih =>
    intro l3 I
    rw [F_X12_findFault_L62]
    refine S.iload_n 38 1 rfl rfl ?_
    refine S.aload_n 39 0 rfl rfl ?_
    refine S.getI 40 rfl fo_X12_9 rfl rfl ?_
    refine S.iconst (1 : Int32) 41 rfl (by decide) ?_
    refine S.isub 42 rfl ?_
    refine S.aload_n 43 0 rfl rfl ?_
    refine S.getI 44 rfl fo_X12_270 rfl rfl ?_
    refine S.isub 45 rfl ?_
    refine S.icmp_lt 104 46 rfl (by decide) (fun _ => ?_) (fun _ => ?_)
    · exact hkx104 _ _
    · refine S.iload_n 47 1 rfl rfl ?_
      refine S.aload_n 48 0 rfl rfl ?_
      refine S.getI 49 rfl fo_X12_9 rfl rfl ?_
      refine S.iconst (1 : Int32) 50 rfl (by decide) ?_
      refine S.isub 51 rfl ?_
      refine S.aload_n 52 0 rfl rfl ?_
      refine S.getI 53 rfl fo_X12_270 rfl rfl ?_
      refine S.isub 54 rfl ?_
      refine S.isub 55 rfl ?_
      refine S.nmi (fun x14 => ?_)
      refine S.istore_n [(3, .int x14), (0, .ref 81)] 56 rfl (by decide) rfl ?_
      refine S.aload_n 57 1 rfl rfl ?_
      refine S.dup 58 rfl rfl ?_
      refine S.getI 59 rfl fo_X12_270 rfl rfl ?_
      refine S.iconst (1 : Int32) 60 rfl (by decide) ?_
      refine S.iadd 61 rfl ?_
      refine S.putI 62 rfl fo_X12_270 rfl rfl rfl rfl (fun _ hq => by cases hq; exact Or.inl rfl) (fun I15 => ?_)
      refine S.goto 62 63 rfl (by decide) ?_
      refine S.sub (lv' := [(0, .ref 81), (3, .int x14)]) [1, 0] rfl ?_
      exact ih _ _
def F_X12_findFault (l1 : Int32) (I : HI) (J : HJ) : Option (Unit × HI × HJ) :=
  cp (F_X12_kindOf l1 I J) fun r7 =>
  lb (fun (y8 : Int32) =>
  lb (ui I m_self f_Model_faultA y8) fun I10 =>
  lb (ui I10 m_self f_Model_faultB (-1 : Int32)) fun I11 =>
  if r7 = (2 : Int32) then
    cp (F_X12_touchFirst I11 J) fun r12 =>
    lb ((l1 - r12)) fun x13 =>
    F_X12_findFault_L62 J (fun (y16 : Int32) (I17 : HI) =>
    lb (ui I17 m_self f_Model_faultB (((I17 m_self f_Model_faultA) + (1 : Int32)) + y16)) fun I18 =>
    some ((), I18, J)) bgf x13 I11
  else
    some ((), I11, J)) fun j9 =>
  if r7 = 0 then
    j9 (-1 : Int32)
  else
    if r7 = (1 : Int32) then
      j9 (l1 - (1 : Int32))
    else
      if r7 = (3 : Int32) then
        cp (F_X12_turnedFirst I J) fun r19 =>
        j9 (l1 - r19)
      else
        j9 (0 : Int32)
set_option maxRecDepth 100000 in
theorem cm_X12_findFault (b : Bool) (l1 : Int32) (I : HI) (J : HJ) : CM mX12_findFault 3 0 0 [.ref 81, .int l1] (zs b, I, J) (fV (zs b)) (F_X12_findFault l1 I J) := by
  refine S.of okX12_findFault pn_X12 (Nat.le_of_ble_eq_true rfl) ?_
  refine S.sub (lv' := [(0, .ref 81), (1, .int l1)]) [0, 1] rfl ?_
  unfold F_X12_findFault
  refine S.aload_n 0 0 rfl rfl ?_
  refine S.iload_n 1 1 rfl rfl ?_
  refine S.qVI (d := 2) (av := [.int l1]) (rs := [.int l1]) (b := 81) 2 rfl co_X12_266 rfl rfl rfl rfl rfl ⟨⟨Nat.le_of_ble_eq_true rfl, Nat.le_of_ble_eq_true rfl⟩, ⟨Nat.le_of_ble_eq_true rfl, Nat.le_of_ble_eq_true rfl⟩, Nat.le_of_ble_eq_true rfl⟩ (cm_X12_kindOf b l1 I J) (fun r7 => ?_)
  refine S.istore_n [(2, .int r7), (0, .ref 81), (1, .int l1)] 3 rfl (by decide) rfl ?_
  refine S.aload_n 4 1 rfl rfl ?_
  refine S.iload_n 5 0 rfl rfl ?_
  refine S.jn (fun j => ∀ (y8 : Int32), S (fV (zs b)) mX12_findFault (rmd 3 0 0) 0 0 (0, 0) 41 [(0, .ref 81), (1, .int l1), (2, .int r7)] [.int y8, .ref 81] (zs b, I, J) (j y8)) (fun y8 => ?_) (fun j9 hj9 => ?_)
  · refine S.putI 25 rfl fo_X12_270 rfl rfl rfl rfl (fun _ hq => by cases hq; exact Or.inl rfl) (fun I10 => ?_)
    refine S.aload_n 26 0 rfl rfl ?_
    refine S.iconst (-1 : Int32) 27 rfl (by decide) ?_
    refine S.putI 28 rfl fo_X12_273 rfl rfl rfl rfl (fun _ hq => by cases hq; exact Or.inl rfl) (fun I11 => ?_)
    refine S.iload_n 29 2 rfl rfl ?_
    refine S.iconst (2 : Int32) 30 rfl (by decide) ?_
    refine S.icmp_eq 55 31 rfl (by decide) (fun _ => ?_) (fun _ => ?_)
    · refine S.iload_n 33 1 rfl rfl ?_
      refine S.aload_n 34 0 rfl rfl ?_
      refine S.qVI (d := 1) (av := []) (rs := []) (b := 81) 35 rfl co_X12_263 rfl rfl rfl rfl rfl ⟨⟨Nat.le_of_ble_eq_true rfl, Nat.le_of_ble_eq_true rfl⟩, ⟨Nat.le_of_ble_eq_true rfl, Nat.le_of_ble_eq_true rfl⟩, Nat.le_of_ble_eq_true rfl⟩ (cm_X12_touchFirst b I11 J) (fun r12 => ?_)
      refine S.isub 36 rfl ?_
      refine S.nmi (fun x13 => ?_)
      refine S.istore_n [(3, .int x13), (0, .ref 81), (1, .int l1), (2, .int r7)] 37 rfl (by decide) rfl ?_
      refine S.sub (lv' := [(0, .ref 81), (3, .int x13)]) [1, 0] rfl ?_
      refine s_X12_findFault_L62 b _ _ (fun y16 I17 => ?_) bgf _ _
      refine S.aload_n 64 0 rfl rfl ?_
      refine S.aload_n 65 0 rfl rfl ?_
      refine S.getI 66 rfl fo_X12_270 rfl rfl ?_
      refine S.iconst (1 : Int32) 67 rfl (by decide) ?_
      refine S.iadd 68 rfl ?_
      refine S.iload_n 69 1 rfl rfl ?_
      refine S.iadd 70 rfl ?_
      refine S.putI 71 rfl fo_X12_273 rfl rfl rfl rfl (fun _ hq => by cases hq; exact Or.inl rfl) (fun I18 => ?_)
      exact S.vret 72 rfl rfl (Nat.le_refl _) (Nat.le_refl _) rfl
    · exact S.vret 32 rfl rfl (Nat.le_refl _) (Nat.le_refl _) rfl
  · refine S.if_ne 15 6 rfl (by decide) (fun _ => ?_) (fun _ => ?_)
    · refine S.iload_n 9 0 rfl rfl ?_
      refine S.iconst (1 : Int32) 10 rfl (by decide) ?_
      refine S.icmp_ne 26 11 rfl (by decide) (fun _ => ?_) (fun _ => ?_)
      · refine S.iload_n 16 0 rfl rfl ?_
        refine S.iconst (3 : Int32) 17 rfl (by decide) ?_
        refine S.icmp_ne 40 18 rfl (by decide) (fun _ => ?_) (fun _ => ?_)
        · refine S.iconst (0 : Int32) 24 rfl (by decide) ?_
          refine S.sub (lv' := [(0, .ref 81), (1, .int l1), (2, .int r7)]) [1, 2, 0] rfl ?_
          exact hj9 _
        · refine S.iload_n 19 2 rfl rfl ?_
          refine S.aload_n 20 1 rfl rfl ?_
          refine S.qVI (d := 1) (av := []) (rs := []) (b := 81) 21 rfl co_X12_257 rfl rfl rfl rfl rfl ⟨⟨Nat.le_of_ble_eq_true rfl, Nat.le_of_ble_eq_true rfl⟩, ⟨Nat.le_of_ble_eq_true rfl, Nat.le_of_ble_eq_true rfl⟩, Nat.le_of_ble_eq_true rfl⟩ (cm_X12_turnedFirst b I J) (fun r19 => ?_)
          refine S.isub 22 rfl ?_
          refine S.goto 41 23 rfl (by decide) ?_
          refine S.sub (lv' := [(0, .ref 81), (1, .int l1), (2, .int r7)]) [1, 2, 0] rfl ?_
          exact hj9 _
      · refine S.iload_n 12 2 rfl rfl ?_
        refine S.iconst (1 : Int32) 13 rfl (by decide) ?_
        refine S.isub 14 rfl ?_
        refine S.goto 41 15 rfl (by decide) ?_
        refine S.sub (lv' := [(0, .ref 81), (1, .int l1), (2, .int r7)]) [1, 2, 0] rfl ?_
        exact hj9 _
    · refine S.iconst (-1 : Int32) 7 rfl (by decide) ?_
      refine S.goto 41 8 rfl (by decide) ?_
      refine S.sub (lv' := [(0, .ref 81), (1, .int l1), (2, .int r7)]) [1, 2, 0] rfl ?_
      exact hj9 _
def F_X12_lay_L52 (l3 : Int32) (J : HJ) (kx235 : Int32 → HI → Option (Unit × HI × HJ)) : Nat → Int32 → Int32 → HI → Option (Unit × HI × HJ)
  | 0, _, _, _ => none
  | K+1, l2, l4, I =>
    if (I m_self f_Model_lamps) ≤ l4 then
      kx235 l2 I
    else
      bx l4 60 <|
      lb ((I m_lampFrom (Int32.toNatClampNeg l4))) fun x21 =>
      bx l4 60 <|
      lb ((I m_lampTo (Int32.toNatClampNeg l4))) fun x22 =>
      lb (fun (y23 : Int32) (y24 : Int32) =>
      lb (fun (y26 : Int32) (I27 : HI) =>
      F_X12_lay_L52 l3 J kx235 K y26 (l4 + 1) I27) fun j28 =>
      lb (
      lb (fun (y30 : Int32) (y31 : Int32) =>
      if y30 = l3 then
        bx l2 60 <|
        lb (ui I m_list (Int32.toNatClampNeg l2) l4) fun I33 =>
        bx l2 60 <|
        lb (ui I33 m_goesTo (Int32.toNatClampNeg l2) y31) fun I34 =>
        j28 (l2 + 1) I34
      else
        j28 l2 I) fun j32 =>
      if (I m_self f_Model_laidKind) = (2 : Int32) then
        lb (fun (y35 : Int32) =>
        lb (fun (y37 : Int32) =>
        if y35 = y37 then
          j28 l2 I
        else
          j32 y35 y37) fun j38 =>
        if y24 = (I m_self f_Model_laidB) then
          j38 (I m_self f_Model_laidA)
        else
          j38 y24) fun j36 =>
        if y23 = (I m_self f_Model_laidB) then
          j36 (I m_self f_Model_laidA)
        else
          j36 y23
      else
        j32 y23 y24) fun j29 =>
      if (I m_self f_Model_laidKind) = (1 : Int32) then
        if y23 = (I m_self f_Model_laidA) then
          j28 l2 I
        else
          if y24 = (I m_self f_Model_laidA) then
            j28 l2 I
          else
            j29
      else
        j29) fun j25 =>
      if (I m_self f_Model_laidKind) = (3 : Int32) then
        if (I m_self f_Model_laidA) = l4 then
          bx l4 60 <|
          lb ((I m_lampTo (Int32.toNatClampNeg l4))) fun x39 =>
          bx l4 60 <|
          lb ((I m_lampFrom (Int32.toNatClampNeg l4))) fun x40 =>
          j25 x39 x40
        else
          j25 x21 x22
      else
        j25 x21 x22
set_option maxRecDepth 100000 in
theorem s_X12_lay_L52 (b : Bool) (l3 : Int32) (J : HJ) (kx235 : Int32 → HI → Option (Unit × HI × HJ)) (hkx235 : ∀ (y2 : Int32) (I1 : HI), S (fV (zs b)) mX12_lay (rmd 4 0 0) 0 0 (0, 0) 235 [(0, .ref 81), (2, .int y2), (3, .int l3)] [] (zs b, I1, J) (kx235 y2 I1)) : ∀ (K : Nat) (l2 : Int32) (l4 : Int32) (I : HI), S (fV (zs b)) mX12_lay (rmd 4 0 0) 0 0 (0, 0) 52 [(0, .ref 81), (2, .int l2), (3, .int l3), (4, .int l4)] [] (zs b, I, J) (F_X12_lay_L52 l3 J kx235 K l2 l4 I) := by
  intro K
  induction K with
  | zero => intro l2 l4 I; exact S.none
  | succ K ih =>
    intro l2 l4 I
    rw [F_X12_lay_L52]
    refine S.iload 31 3 rfl rfl ?_
    refine S.aload_n 32 0 rfl rfl ?_
    refine S.getI 33 rfl fo_X12_169 rfl rfl ?_
    refine S.icmp_ge 235 34 rfl (by decide) (fun _ => ?_) (fun _ => ?_)
    · refine S.sub (lv' := [(0, .ref 81), (2, .int l2), (3, .int l3)]) [0, 1, 2] rfl ?_
      exact hkx235 _ _
    · refine S.aload_n 35 0 rfl rfl ?_
      refine S.getR 36 rfl fo_X12_13 rfl rfl rfl ?_
      refine S.iload 37 3 rfl rfl ?_
      refine S.iald 38 rfl rfl ?_
      refine S.nmi (fun x21 => ?_)
      refine S.istore [(5, .int x21), (0, .ref 81), (2, .int l2), (3, .int l3), (4, .int l4)] 39 rfl (by decide) rfl ?_
      refine S.aload_n 40 1 rfl rfl ?_
      refine S.getR 41 rfl fo_X12_17 rfl rfl rfl ?_
      refine S.iload 42 4 rfl rfl ?_
      refine S.iald 43 rfl rfl ?_
      refine S.nmi (fun x22 => ?_)
      refine S.istore [(6, .int x22), (5, .int x21), (0, .ref 81), (2, .int l2), (3, .int l3), (4, .int l4)] 44 rfl (by decide) rfl ?_
      refine S.aload_n 45 2 rfl rfl ?_
      refine S.getI 46 rfl fo_X12_279 rfl rfl ?_
      refine S.iconst (3 : Int32) 47 rfl (by decide) ?_
      refine S.jn (fun j => ∀ (y23 : Int32) (y24 : Int32), S (fV (zs b)) mX12_lay (rmd 4 0 0) 0 0 (0, 0) 114 [(0, .ref 81), (2, .int l2), (3, .int l3), (4, .int l4), (5, .int y23), (6, .int y24)] [] (zs b, I, J) (j y23 y24)) (fun y23 y24 => ?_) (fun j25 hj25 => ?_)
      · refine S.aload_n 63 0 rfl rfl ?_
        refine S.getI 64 rfl fo_X12_279 rfl rfl ?_
        refine S.iconst (1 : Int32) 65 rfl (by decide) ?_
        refine S.jn (fun j => ∀ (y26 : Int32) (I27 : HI), S (fV (zs b)) mX12_lay (rmd 4 0 0) 0 0 (0, 0) 229 [(0, .ref 81), (2, .int y26), (3, .int l3), (4, .int l4)] [] (zs b, I27, J) (j y26 I27)) (fun y26 I27 => ?_) (fun j28 hj28 => ?_)
        · refine S.iinc (l4 + 1) [(4, .int (l4 + 1)), (0, .ref 81), (2, .int y26), (3, .int l3)] 117 3 rfl rfl rfl (by decide) rfl ?_
          refine S.goto 52 118 rfl (by decide) ?_
          refine S.sub (lv' := [(0, .ref 81), (2, .int y26), (3, .int l3), (4, .int (l4 + 1))]) [1, 2, 3, 0] rfl ?_
          exact ih _ _ _
        · refine S.jn (fun j => S (fV (zs b)) mX12_lay (rmd 4 0 0) 0 0 (0, 0) 143 [(0, .ref 81), (2, .int l2), (3, .int l3), (4, .int l4), (5, .int y23), (6, .int y24)] [] (zs b, I, J) (j)) ?_ (fun j29 hj29 => ?_)
          · refine S.aload_n 76 0 rfl rfl ?_
            refine S.getI 77 rfl fo_X12_279 rfl rfl ?_
            refine S.iconst (2 : Int32) 78 rfl (by decide) ?_
            refine S.jn (fun j => ∀ (y30 : Int32) (y31 : Int32), S (fV (zs b)) mX12_lay (rmd 4 0 0) 0 0 (0, 0) 201 [(0, .ref 81), (2, .int l2), (3, .int l3), (4, .int l4), (5, .int y30), (6, .int y31)] [] (zs b, I, J) (j y30 y31)) (fun y30 y31 => ?_) (fun j32 hj32 => ?_)
            · refine S.iload 102 4 rfl rfl ?_
              refine S.iload_n 103 2 rfl rfl ?_
              refine S.icmp_eq 210 104 rfl (by decide) (fun _ => ?_) (fun _ => ?_)
              · refine S.aload_n 106 0 rfl rfl ?_
                refine S.getR 107 rfl fo_X12_43 rfl rfl rfl ?_
                refine S.iload_n 108 1 rfl rfl ?_
                refine S.iload 109 3 rfl rfl ?_
                refine S.iast 110 rfl rfl (fun I33 => ?_)
                refine S.aload_n 111 0 rfl rfl ?_
                refine S.getR 112 rfl fo_X12_46 rfl rfl rfl ?_
                refine S.iload_n 113 1 rfl rfl ?_
                refine S.iload 114 5 rfl rfl ?_
                refine S.iast 115 rfl rfl (fun I34 => ?_)
                refine S.iinc (l2 + 1) [(2, .int (l2 + 1)), (0, .ref 81), (3, .int l3), (4, .int l4), (5, .int y30), (6, .int y31)] 116 1 rfl rfl rfl (by decide) rfl ?_
                refine S.sub (lv' := [(0, .ref 81), (2, .int (l2 + 1)), (3, .int l3), (4, .int l4)]) [1, 0, 2, 3] rfl ?_
                exact hj28 _ _
              · refine S.goto 229 105 rfl (by decide) ?_
                refine S.sub (lv' := [(0, .ref 81), (2, .int l2), (3, .int l3), (4, .int l4)]) [0, 1, 2, 3] rfl ?_
                exact hj28 _ _
            · refine S.icmp_ne 201 79 rfl (by decide) (fun _ => ?_) (fun _ => ?_)
              · exact hj32 _ _
              · refine S.iload 80 4 rfl rfl ?_
                refine S.aload_n 81 0 rfl rfl ?_
                refine S.getI 82 rfl fo_X12_285 rfl rfl ?_
                refine S.jn (fun j => ∀ (y35 : Int32), S (fV (zs b)) mX12_lay (rmd 4 0 0) 0 0 (0, 0) 169 [(0, .ref 81), (2, .int l2), (3, .int l3), (4, .int l4), (6, .int y24)] [.int y35] (zs b, I, J) (j y35)) (fun y35 => ?_) (fun j36 hj36 => ?_)
                · refine S.istore [(5, .int y35), (0, .ref 81), (2, .int l2), (3, .int l3), (4, .int l4), (6, .int y24)] 88 rfl (by decide) rfl ?_
                  refine S.iload 89 5 rfl rfl ?_
                  refine S.aload_n 90 1 rfl rfl ?_
                  refine S.getI 91 rfl fo_X12_285 rfl rfl ?_
                  refine S.jn (fun j => ∀ (y37 : Int32), S (fV (zs b)) mX12_lay (rmd 4 0 0) 0 0 (0, 0) 189 [(0, .ref 81), (2, .int l2), (3, .int l3), (4, .int l4), (5, .int y35)] [.int y37] (zs b, I, J) (j y37)) (fun y37 => ?_) (fun j38 hj38 => ?_)
                  · refine S.istore [(6, .int y37), (0, .ref 81), (2, .int l2), (3, .int l3), (4, .int l4), (5, .int y35)] 97 rfl (by decide) rfl ?_
                    refine S.iload 98 5 rfl rfl ?_
                    refine S.iload 99 0 rfl rfl ?_
                    refine S.icmp_ne 201 100 rfl (by decide) (fun _ => ?_) (fun _ => ?_)
                    · refine S.sub (lv' := [(0, .ref 81), (2, .int l2), (3, .int l3), (4, .int l4), (5, .int y35), (6, .int y37)]) [1, 2, 3, 4, 5, 0] rfl ?_
                      exact hj32 _ _
                    · refine S.goto 229 101 rfl (by decide) ?_
                      refine S.sub (lv' := [(0, .ref 81), (2, .int l2), (3, .int l3), (4, .int l4)]) [1, 2, 3, 4] rfl ?_
                      exact hj28 _ _
                  · refine S.icmp_ne 187 92 rfl (by decide) (fun _ => ?_) (fun _ => ?_)
                    · refine S.iload 96 5 rfl rfl ?_
                      refine S.sub (lv' := [(0, .ref 81), (2, .int l2), (3, .int l3), (4, .int l4), (5, .int y35)]) [1, 2, 3, 4, 0] rfl ?_
                      exact hj38 _
                    · refine S.aload_n 93 1 rfl rfl ?_
                      refine S.getI 94 rfl fo_X12_282 rfl rfl ?_
                      refine S.goto 189 95 rfl (by decide) ?_
                      refine S.sub (lv' := [(0, .ref 81), (2, .int l2), (3, .int l3), (4, .int l4), (5, .int y35)]) [1, 2, 3, 4, 0] rfl ?_
                      exact hj38 _
                · refine S.icmp_ne 167 83 rfl (by decide) (fun _ => ?_) (fun _ => ?_)
                  · refine S.iload 87 4 rfl rfl ?_
                    refine S.sub (lv' := [(0, .ref 81), (2, .int l2), (3, .int l3), (4, .int l4), (6, .int y24)]) [0, 1, 2, 3, 5] rfl ?_
                    exact hj36 _
                  · refine S.aload_n 84 0 rfl rfl ?_
                    refine S.getI 85 rfl fo_X12_282 rfl rfl ?_
                    refine S.goto 169 86 rfl (by decide) ?_
                    refine S.sub (lv' := [(0, .ref 81), (2, .int l2), (3, .int l3), (4, .int l4), (6, .int y24)]) [0, 1, 2, 3, 5] rfl ?_
                    exact hj36 _
          · refine S.icmp_ne 143 66 rfl (by decide) (fun _ => ?_) (fun _ => ?_)
            · exact hj29
            · refine S.iload 67 4 rfl rfl ?_
              refine S.aload_n 68 0 rfl rfl ?_
              refine S.getI 69 rfl fo_X12_282 rfl rfl ?_
              refine S.icmp_eq 229 70 rfl (by decide) (fun _ => ?_) (fun _ => ?_)
              · refine S.sub (lv' := [(0, .ref 81), (2, .int l2), (3, .int l3), (4, .int l4)]) [0, 1, 2, 3] rfl ?_
                exact hj28 _ _
              · refine S.iload 71 5 rfl rfl ?_
                refine S.aload_n 72 0 rfl rfl ?_
                refine S.getI 73 rfl fo_X12_282 rfl rfl ?_
                refine S.icmp_ne 143 74 rfl (by decide) (fun _ => ?_) (fun _ => ?_)
                · exact hj29
                · refine S.goto 229 75 rfl (by decide) ?_
                  refine S.sub (lv' := [(0, .ref 81), (2, .int l2), (3, .int l3), (4, .int l4)]) [0, 1, 2, 3] rfl ?_
                  exact hj28 _ _
      · refine S.icmp_ne 114 48 rfl (by decide) (fun _ => ?_) (fun _ => ?_)
        · refine S.sub (lv' := [(0, .ref 81), (2, .int l2), (3, .int l3), (4, .int l4), (5, .int x21), (6, .int x22)]) [2, 3, 4, 5, 1, 0] rfl ?_
          exact hj25 _ _
        · refine S.aload_n 49 2 rfl rfl ?_
          refine S.getI 50 rfl fo_X12_282 rfl rfl ?_
          refine S.iload 51 5 rfl rfl ?_
          refine S.icmp_ne 114 52 rfl (by decide) (fun _ => ?_) (fun _ => ?_)
          · refine S.sub (lv' := [(0, .ref 81), (2, .int l2), (3, .int l3), (4, .int l4), (5, .int x21), (6, .int x22)]) [2, 3, 4, 5, 1, 0] rfl ?_
            exact hj25 _ _
          · refine S.aload_n 53 2 rfl rfl ?_
            refine S.getR 54 rfl fo_X12_17 rfl rfl rfl ?_
            refine S.iload 55 5 rfl rfl ?_
            refine S.iald 56 rfl rfl ?_
            refine S.nmi (fun x39 => ?_)
            refine S.istore [(5, .int x39), (6, .int x22), (0, .ref 81), (2, .int l2), (3, .int l3), (4, .int l4)] 57 rfl (by decide) rfl ?_
            refine S.aload_n 58 2 rfl rfl ?_
            refine S.getR 59 rfl fo_X12_13 rfl rfl rfl ?_
            refine S.iload 60 5 rfl rfl ?_
            refine S.iald 61 rfl rfl ?_
            refine S.nmi (fun x40 => ?_)
            refine S.istore [(6, .int x40), (5, .int x39), (0, .ref 81), (2, .int l2), (3, .int l3), (4, .int l4)] 62 rfl (by decide) rfl ?_
            refine S.sub (lv' := [(0, .ref 81), (2, .int l2), (3, .int l3), (4, .int l4), (5, .int x39), (6, .int x40)]) [2, 3, 4, 5, 1, 0] rfl ?_
            exact hj25 _ _
def F_X12_lay_L34 (J : HJ) (kx241 : Int32 → HI → Option (Unit × HI × HJ)) : Nat → Int32 → Int32 → HI → Option (Unit × HI × HJ)
  | 0, _, _, _ => none
  | K+1, l2, l3, I =>
    if (I m_self f_Model_wide) ≤ l3 then
      kx241 l2 I
    else
      bx l3 11 <|
      lb (ui I m_listFrom (Int32.toNatClampNeg l3) l2) fun I20 =>
      F_X12_lay_L52 l3 J (fun (y41 : Int32) (I42 : HI) =>
      F_X12_lay_L34 J kx241 K y41 (l3 + 1) I42) bgf l2 (0 : Int32) I20
set_option maxRecDepth 100000 in
theorem s_X12_lay_L34 (b : Bool) (J : HJ) (kx241 : Int32 → HI → Option (Unit × HI × HJ)) (hkx241 : ∀ (y2 : Int32) (I1 : HI), S (fV (zs b)) mX12_lay (rmd 4 0 0) 0 0 (0, 0) 241 [(0, .ref 81), (2, .int y2)] [] (zs b, I1, J) (kx241 y2 I1)) : ∀ (K : Nat) (l2 : Int32) (l3 : Int32) (I : HI), S (fV (zs b)) mX12_lay (rmd 4 0 0) 0 0 (0, 0) 34 [(0, .ref 81), (2, .int l2), (3, .int l3)] [] (zs b, I, J) (F_X12_lay_L34 J kx241 K l2 l3 I) := by
  intro K
  induction K with
  | zero => intro l2 l3 I; exact S.none
  | succ K ih =>
    intro l2 l3 I
    rw [F_X12_lay_L34]
    refine S.iload_n 20 2 rfl rfl ?_
    refine S.aload_n 21 0 rfl rfl ?_
    refine S.getI 22 rfl fo_X12_9 rfl rfl ?_
    refine S.icmp_ge 241 23 rfl (by decide) (fun _ => ?_) (fun _ => ?_)
    · refine S.sub (lv' := [(0, .ref 81), (2, .int l2)]) [0, 1] rfl ?_
      exact hkx241 _ _
    · refine S.aload_n 24 0 rfl rfl ?_
      refine S.getR 25 rfl fo_X12_40 rfl rfl rfl ?_
      refine S.iload_n 26 2 rfl rfl ?_
      refine S.iload_n 27 1 rfl rfl ?_
      refine S.iast 28 rfl rfl (fun I20 => ?_)
      refine S.iconst (0 : Int32) 29 rfl (by decide) ?_
      refine S.istore [(4, .int (0 : Int32)), (0, .ref 81), (2, .int l2), (3, .int l3)] 30 rfl (by decide) rfl ?_
      refine S.sub (lv' := [(0, .ref 81), (2, .int l2), (3, .int l3), (4, .int (0 : Int32))]) [1, 2, 3, 0] rfl ?_
      refine s_X12_lay_L52 b _ _ _ (fun y41 I42 => ?_) bgf _ _ _
      refine S.iinc (l3 + 1) [(3, .int (l3 + 1)), (0, .ref 81), (2, .int y41)] 119 2 rfl rfl rfl (by decide) rfl ?_
      refine S.goto 34 120 rfl (by decide) ?_
      refine S.sub (lv' := [(0, .ref 81), (2, .int y41), (3, .int (l3 + 1))]) [1, 2, 0] rfl ?_
      exact ih _ _ _
def F_X12_lay (l1 : Int32) (I : HI) (J : HJ) : Option (Unit × HI × HJ) :=
  cl (F_X12_findFault l1 I J) fun _ I14 J15 =>
  cp (F_X12_kindOf l1 I14 J15) fun r16 =>
  lb (ui I14 m_self f_Model_laidKind r16) fun I17 =>
  lb (ui I17 m_self f_Model_laidA (I17 m_self f_Model_faultA)) fun I18 =>
  lb (ui I18 m_self f_Model_laidB (I18 m_self f_Model_faultB)) fun I19 =>
  F_X12_lay_L34 J15 (fun (y43 : Int32) (I44 : HI) =>
  bx (I44 m_self f_Model_wide) 11 <|
  lb (ui I44 m_listFrom (Int32.toNatClampNeg (I44 m_self f_Model_wide)) y43) fun I45 =>
  some ((), I45, J15)) bgf (0 : Int32) (0 : Int32) I19
set_option maxRecDepth 100000 in
theorem cm_X12_lay (b : Bool) (l1 : Int32) (I : HI) (J : HJ) : CM mX12_lay 4 0 0 [.ref 81, .int l1] (zs b, I, J) (fV (zs b)) (F_X12_lay l1 I J) := by
  refine S.of okX12_lay pn_X12 (Nat.le_of_ble_eq_true rfl) ?_
  refine S.sub (lv' := [(0, .ref 81), (1, .int l1)]) [0, 1] rfl ?_
  unfold F_X12_lay
  refine S.aload_n 0 0 rfl rfl ?_
  refine S.iload_n 1 1 rfl rfl ?_
  refine S.cVV (d := 3) (av := [.int l1]) (rs := [.int l1]) (b := 81) 2 rfl co_X12_276 rfl rfl rfl rfl rfl ⟨⟨Nat.le_of_ble_eq_true rfl, Nat.le_of_ble_eq_true rfl⟩, ⟨Nat.le_of_ble_eq_true rfl, Nat.le_of_ble_eq_true rfl⟩, Nat.le_of_ble_eq_true rfl⟩ (cm_X12_findFault b l1 I J) (fun _ I14 J15 => ?_)
  refine S.aload_n 3 0 rfl rfl ?_
  refine S.aload_n 4 0 rfl rfl ?_
  refine S.iload_n 5 1 rfl rfl ?_
  refine S.qVI (d := 2) (av := [.int l1]) (rs := [.int l1]) (b := 81) 6 rfl co_X12_266 rfl rfl rfl rfl rfl ⟨⟨Nat.le_of_ble_eq_true rfl, Nat.le_of_ble_eq_true rfl⟩, ⟨Nat.le_of_ble_eq_true rfl, Nat.le_of_ble_eq_true rfl⟩, Nat.le_of_ble_eq_true rfl⟩ (cm_X12_kindOf b l1 I14 J15) (fun r16 => ?_)
  refine S.putI 7 rfl fo_X12_279 rfl rfl rfl rfl (fun _ hq => by cases hq; exact Or.inl rfl) (fun I17 => ?_)
  refine S.aload_n 8 0 rfl rfl ?_
  refine S.aload_n 9 0 rfl rfl ?_
  refine S.getI 10 rfl fo_X12_270 rfl rfl ?_
  refine S.putI 11 rfl fo_X12_282 rfl rfl rfl rfl (fun _ hq => by cases hq; exact Or.inl rfl) (fun I18 => ?_)
  refine S.aload_n 12 0 rfl rfl ?_
  refine S.aload_n 13 0 rfl rfl ?_
  refine S.getI 14 rfl fo_X12_273 rfl rfl ?_
  refine S.putI 15 rfl fo_X12_285 rfl rfl rfl rfl (fun _ hq => by cases hq; exact Or.inl rfl) (fun I19 => ?_)
  refine S.iconst (0 : Int32) 16 rfl (by decide) ?_
  refine S.istore_n [(2, .int (0 : Int32)), (0, .ref 81), (1, .int l1)] 17 rfl (by decide) rfl ?_
  refine S.iconst (0 : Int32) 18 rfl (by decide) ?_
  refine S.istore_n [(3, .int (0 : Int32)), (2, .int (0 : Int32)), (0, .ref 81), (1, .int l1)] 19 rfl (by decide) rfl ?_
  refine S.sub (lv' := [(0, .ref 81), (2, .int (0 : Int32)), (3, .int (0 : Int32))]) [2, 1, 0] rfl ?_
  refine s_X12_lay_L34 b _ _ (fun y43 I44 => ?_) bgf _ _ _
  refine S.aload_n 121 0 rfl rfl ?_
  refine S.getR 122 rfl fo_X12_40 rfl rfl rfl ?_
  refine S.aload_n 123 0 rfl rfl ?_
  refine S.getI 124 rfl fo_X12_9 rfl rfl ?_
  refine S.iload_n 125 1 rfl rfl ?_
  refine S.iast 126 rfl rfl (fun I45 => ?_)
  exact S.vret 127 rfl rfl (Nat.le_refl _) (Nat.le_refl _) rfl
def F_X12_has (l0 : Int64) (l2 : Int32) : Option Int32 :=
  if (lg_cmp ((olshr l0 l2) &&& (1 : Int64)) (1 : Int64)) = 0 then
    some (1 : Int32)
  else
    some (0 : Int32)
set_option maxRecDepth 100000 in
theorem cm_X12_has (h : Hp) (l0 : Int64) (l2 : Int32) : CM mX12_has 1 0 0 [.long l0, .int l2] h (pI h) (F_X12_has l0 l2) := by
  refine S.of okX12_has pn_X12 (Nat.le_of_ble_eq_true rfl) ?_
  refine S.sub (lv' := [(0, .long l0), (2, .int l2)]) [0, 1] rfl ?_
  unfold F_X12_has
  refine S.lload_n 0 0 rfl rfl ?_
  refine S.iload_n 1 1 rfl rfl ?_
  refine S.lshr 2 rfl ?_
  refine S.lconst (1 : Int64) 3 rfl (by decide) ?_
  refine S.land 4 rfl ?_
  refine S.lconst (1 : Int64) 5 rfl (by decide) ?_
  refine S.lcmp 6 rfl ?_
  refine S.if_ne 14 7 rfl (by decide) (fun _ => ?_) (fun _ => ?_)
  · refine S.iconst (0 : Int32) 10 rfl (by decide) ?_
    exact S.iret 11 rfl rfl rfl (Nat.le_refl _) (Nat.le_refl _) rfl
  · refine S.iconst (1 : Int32) 8 rfl (by decide) ?_
    refine S.goto 15 9 rfl (by decide) ?_
    exact S.iret 11 rfl rfl rfl (Nat.le_refl _) (Nat.le_refl _) rfl
def F_X12_begin (l1 : Int32) (l2 : Int32) (I : HI) (J : HJ) : Option (Int32 × HI × HJ) :=
  lb (ui I m_self f_Model_high l1) fun I10 =>
  lb (ui I10 m_self f_Model_low l2) fun I11 =>
  lb (fun (I12 : HI) =>
  if (I12 m_self f_Model_laidKind) = (2 : Int32) then
    cp (F_X12_has (Int32.toInt64 (l1 ||| l2)) (I12 m_self f_Model_laidA)) fun r14 =>
    cp (F_X12_has (Int32.toInt64 l1) (I12 m_self f_Model_laidA)) fun r15 =>
    lb (
    cp (F_X12_has (Int32.toInt64 l2) (I12 m_self f_Model_laidA)) fun r17 =>
    lb (
    lb (fun (y19 : Int32) =>
    bx y19 10 <|
    lb (ui I12 m_self f_Model_ohmsTouch (I12 m_ohm (Int32.toNatClampNeg y19))) fun I21 =>
    cp (F_X12_has (Int32.toInt64 l1) (I21 m_self f_Model_laidB)) fun r22 =>
    lb (fun (I23 : HI) =>
    cp (F_X12_has (Int32.toInt64 l2) (I23 m_self f_Model_laidB)) fun r25 =>
    lb (fun (I26 : HI) =>
    lb (ui I26 m_self f_Model_high ((I26 m_self f_Model_high) &&& ((oshl (1 : Int32) (I26 m_self f_Model_laidB)) ^^^ (-1 : Int32)))) fun I28 =>
    lb (ui I28 m_self f_Model_low ((I28 m_self f_Model_low) &&& ((oshl (1 : Int32) (I28 m_self f_Model_laidB)) ^^^ (-1 : Int32)))) fun I29 =>
    some ((1 : Int32), I29, J)) fun j27 =>
    if r25 = 0 then
      j27 I23
    else
      lb (ui I23 m_self f_Model_low ((I23 m_self f_Model_low) ||| (oshl (1 : Int32) (I23 m_self f_Model_laidA)))) fun I30 =>
      j27 I30) fun j24 =>
    if r22 = 0 then
      j24 I21
    else
      lb (ui I21 m_self f_Model_high ((I21 m_self f_Model_high) ||| (oshl (1 : Int32) (I21 m_self f_Model_laidA)))) fun I31 =>
      j24 I31) fun j20 =>
    if r14 = 0 then
      j20 (I12 m_self f_Model_laidB)
    else
      j20 (I12 m_self f_Model_laidA)) fun j18 =>
    if r17 = 0 then
      j18
    else
      cp (F_X12_has (Int32.toInt64 l1) (I12 m_self f_Model_laidB)) fun r32 =>
      if r32 = 0 then
        j18
      else
        some ((0 : Int32), I12, J)) fun j16 =>
    if r15 = 0 then
      j16
    else
      cp (F_X12_has (Int32.toInt64 l2) (I12 m_self f_Model_laidB)) fun r33 =>
      if r33 = 0 then
        j16
      else
        some ((0 : Int32), I12, J)
  else
    some ((1 : Int32), I12, J)) fun j13 =>
  if (I11 m_self f_Model_laidKind) = (1 : Int32) then
    lb (ui I11 m_self f_Model_high ((I11 m_self f_Model_high) &&& ((oshl (1 : Int32) (I11 m_self f_Model_laidA)) ^^^ (-1 : Int32)))) fun I34 =>
    lb (ui I34 m_self f_Model_low ((I34 m_self f_Model_low) &&& ((oshl (1 : Int32) (I34 m_self f_Model_laidA)) ^^^ (-1 : Int32)))) fun I35 =>
    j13 I35
  else
    j13 I11
set_option maxRecDepth 100000 in
theorem cm_X12_begin (b : Bool) (l1 : Int32) (l2 : Int32) (I : HI) (J : HJ) : CM mX12_begin 2 0 0 [.ref 81, .int l1, .int l2] (zs b, I, J) (fI (zs b)) (F_X12_begin l1 l2 I J) := by
  refine S.of okX12_begin pn_X12 (Nat.le_of_ble_eq_true rfl) ?_
  refine S.sub (lv' := [(0, .ref 81), (1, .int l1), (2, .int l2)]) [0, 1, 2] rfl ?_
  unfold F_X12_begin
  refine S.aload_n 0 0 rfl rfl ?_
  refine S.iload_n 1 1 rfl rfl ?_
  refine S.putI 2 rfl fo_X12_288 rfl rfl rfl rfl (fun _ hq => by cases hq; exact Or.inl rfl) (fun I10 => ?_)
  refine S.aload_n 3 0 rfl rfl ?_
  refine S.iload_n 4 2 rfl rfl ?_
  refine S.putI 5 rfl fo_X12_291 rfl rfl rfl rfl (fun _ hq => by cases hq; exact Or.inl rfl) (fun I11 => ?_)
  refine S.aload_n 6 0 rfl rfl ?_
  refine S.getI 7 rfl fo_X12_279 rfl rfl ?_
  refine S.iconst (1 : Int32) 8 rfl (by decide) ?_
  refine S.jn (fun j => ∀ (I12 : HI), S (fI (zs b)) mX12_begin (rmd 2 0 0) 0 0 (0, 0) 52 [(0, .ref 81), (1, .int l1), (2, .int l2)] [] (zs b, I12, J) (j I12)) (fun I12 => ?_) (fun j13 hj13 => ?_)
  · refine S.aload_n 32 0 rfl rfl ?_
    refine S.getI 33 rfl fo_X12_279 rfl rfl ?_
    refine S.iconst (2 : Int32) 34 rfl (by decide) ?_
    refine S.icmp_ne 234 35 rfl (by decide) (fun _ => ?_) (fun _ => ?_)
    · refine S.iconst (1 : Int32) 134 rfl (by decide) ?_
      exact S.iret 135 rfl rfl rfl (Nat.le_refl _) (Nat.le_refl _) rfl
    · refine S.iload_n 36 1 rfl rfl ?_
      refine S.iload_n 37 2 rfl rfl ?_
      refine S.ior 38 rfl ?_
      refine S.i2l 39 rfl ?_
      refine S.aload_n 40 0 rfl rfl ?_
      refine S.getI 41 rfl fo_X12_282 rfl rfl ?_
      refine S.qSI (d := 1) (av := [.long (Int32.toInt64 (l1 ||| l2)), .int (I12 m_self f_Model_laidA)]) (rs := [.int (I12 m_self f_Model_laidA), .long (Int32.toInt64 (l1 ||| l2))]) 42 rfl co_X12_294 rfl rfl ⟨⟨Nat.le_of_ble_eq_true rfl, Nat.le_of_ble_eq_true rfl⟩, ⟨Nat.le_of_ble_eq_true rfl, Nat.le_of_ble_eq_true rfl⟩, Nat.le_of_ble_eq_true rfl⟩ (cm_X12_has (zs b, I12, J) (Int32.toInt64 (l1 ||| l2)) (I12 m_self f_Model_laidA)) (fun r14 => ?_)
      refine S.istore_n [(3, .int r14), (0, .ref 81), (1, .int l1), (2, .int l2)] 43 rfl (by decide) rfl ?_
      refine S.iload_n 44 2 rfl rfl ?_
      refine S.i2l 45 rfl ?_
      refine S.aload_n 46 1 rfl rfl ?_
      refine S.getI 47 rfl fo_X12_282 rfl rfl ?_
      refine S.qSI (d := 1) (av := [.long (Int32.toInt64 l1), .int (I12 m_self f_Model_laidA)]) (rs := [.int (I12 m_self f_Model_laidA), .long (Int32.toInt64 l1)]) 48 rfl co_X12_294 rfl rfl ⟨⟨Nat.le_of_ble_eq_true rfl, Nat.le_of_ble_eq_true rfl⟩, ⟨Nat.le_of_ble_eq_true rfl, Nat.le_of_ble_eq_true rfl⟩, Nat.le_of_ble_eq_true rfl⟩ (cm_X12_has (zs b, I12, J) (Int32.toInt64 l1) (I12 m_self f_Model_laidA)) (fun r15 => ?_)
      refine S.jn (fun j => S (fI (zs b)) mX12_begin (rmd 2 0 0) 0 0 (0, 0) 96 [(0, .ref 81), (1, .int l1), (2, .int l2), (3, .int r14)] [] (zs b, I12, J) (j)) ?_ (fun j16 hj16 => ?_)
      · refine S.iload_n 56 2 rfl rfl ?_
        refine S.i2l 57 rfl ?_
        refine S.aload_n 58 0 rfl rfl ?_
        refine S.getI 59 rfl fo_X12_282 rfl rfl ?_
        refine S.qSI (d := 1) (av := [.long (Int32.toInt64 l2), .int (I12 m_self f_Model_laidA)]) (rs := [.int (I12 m_self f_Model_laidA), .long (Int32.toInt64 l2)]) 60 rfl co_X12_294 rfl rfl ⟨⟨Nat.le_of_ble_eq_true rfl, Nat.le_of_ble_eq_true rfl⟩, ⟨Nat.le_of_ble_eq_true rfl, Nat.le_of_ble_eq_true rfl⟩, Nat.le_of_ble_eq_true rfl⟩ (cm_X12_has (zs b, I12, J) (Int32.toInt64 l2) (I12 m_self f_Model_laidA)) (fun r17 => ?_)
        refine S.jn (fun j => S (fI (zs b)) mX12_begin (rmd 2 0 0) 0 0 (0, 0) 122 [(0, .ref 81), (1, .int l1), (2, .int l2), (3, .int r14)] [] (zs b, I12, J) (j)) ?_ (fun j18 hj18 => ?_)
        · refine S.aload_n 70 0 rfl rfl ?_
          refine S.aload_n 71 0 rfl rfl ?_
          refine S.getR 72 rfl fo_X12_23 rfl rfl rfl ?_
          refine S.iload_n 73 3 rfl rfl ?_
          refine S.jn (fun j => ∀ (y19 : Int32), S (fI (zs b)) mX12_begin (rmd 2 0 0) 0 0 (0, 0) 142 [(0, .ref 81), (1, .int l1), (2, .int l2)] [.int y19, .ref 85, .ref 81] (zs b, I12, J) (j y19)) (fun y19 => ?_) (fun j20 hj20 => ?_)
          · refine S.iald 80 rfl rfl ?_
            refine S.putI 81 rfl fo_X12_298 rfl rfl rfl rfl (fun _ hq => by cases hq; exact Or.inl rfl) (fun I21 => ?_)
            refine S.iload_n 82 1 rfl rfl ?_
            refine S.i2l 83 rfl ?_
            refine S.aload_n 84 0 rfl rfl ?_
            refine S.getI 85 rfl fo_X12_285 rfl rfl ?_
            refine S.qSI (d := 1) (av := [.long (Int32.toInt64 l1), .int (I21 m_self f_Model_laidB)]) (rs := [.int (I21 m_self f_Model_laidB), .long (Int32.toInt64 l1)]) 86 rfl co_X12_294 rfl rfl ⟨⟨Nat.le_of_ble_eq_true rfl, Nat.le_of_ble_eq_true rfl⟩, ⟨Nat.le_of_ble_eq_true rfl, Nat.le_of_ble_eq_true rfl⟩, Nat.le_of_ble_eq_true rfl⟩ (cm_X12_has (zs b, I21, J) (Int32.toInt64 l1) (I21 m_self f_Model_laidB)) (fun r22 => ?_)
            refine S.jn (fun j => ∀ (I23 : HI), S (fI (zs b)) mX12_begin (rmd 2 0 0) 0 0 (0, 0) 173 [(0, .ref 81), (2, .int l2)] [] (zs b, I23, J) (j I23)) (fun I23 => ?_) (fun j24 hj24 => ?_)
            · refine S.iload_n 97 1 rfl rfl ?_
              refine S.i2l 98 rfl ?_
              refine S.aload_n 99 0 rfl rfl ?_
              refine S.getI 100 rfl fo_X12_285 rfl rfl ?_
              refine S.qSI (d := 1) (av := [.long (Int32.toInt64 l2), .int (I23 m_self f_Model_laidB)]) (rs := [.int (I23 m_self f_Model_laidB), .long (Int32.toInt64 l2)]) 101 rfl co_X12_294 rfl rfl ⟨⟨Nat.le_of_ble_eq_true rfl, Nat.le_of_ble_eq_true rfl⟩, ⟨Nat.le_of_ble_eq_true rfl, Nat.le_of_ble_eq_true rfl⟩, Nat.le_of_ble_eq_true rfl⟩ (cm_X12_has (zs b, I23, J) (Int32.toInt64 l2) (I23 m_self f_Model_laidB)) (fun r25 => ?_)
              refine S.jn (fun j => ∀ (I26 : HI), S (fI (zs b)) mX12_begin (rmd 2 0 0) 0 0 (0, 0) 200 [(0, .ref 81)] [] (zs b, I26, J) (j I26)) (fun I26 => ?_) (fun j27 hj27 => ?_)
              · refine S.aload_n 112 0 rfl rfl ?_
                refine S.dup 113 rfl rfl ?_
                refine S.getI 114 rfl fo_X12_288 rfl rfl ?_
                refine S.iconst (1 : Int32) 115 rfl (by decide) ?_
                refine S.aload_n 116 0 rfl rfl ?_
                refine S.getI 117 rfl fo_X12_285 rfl rfl ?_
                refine S.ishl 118 rfl ?_
                refine S.iconst (-1 : Int32) 119 rfl (by decide) ?_
                refine S.ixor 120 rfl ?_
                refine S.iand 121 rfl ?_
                refine S.putI 122 rfl fo_X12_288 rfl rfl rfl rfl (fun _ hq => by cases hq; exact Or.inl rfl) (fun I28 => ?_)
                refine S.aload_n 123 0 rfl rfl ?_
                refine S.dup 124 rfl rfl ?_
                refine S.getI 125 rfl fo_X12_291 rfl rfl ?_
                refine S.iconst (1 : Int32) 126 rfl (by decide) ?_
                refine S.aload_n 127 0 rfl rfl ?_
                refine S.getI 128 rfl fo_X12_285 rfl rfl ?_
                refine S.ishl 129 rfl ?_
                refine S.iconst (-1 : Int32) 130 rfl (by decide) ?_
                refine S.ixor 131 rfl ?_
                refine S.iand 132 rfl ?_
                refine S.putI 133 rfl fo_X12_291 rfl rfl rfl rfl (fun _ hq => by cases hq; exact Or.inl rfl) (fun I29 => ?_)
                refine S.iconst (1 : Int32) 134 rfl (by decide) ?_
                exact S.iret 135 rfl rfl rfl (Nat.le_refl _) (Nat.le_refl _) rfl
              · refine S.if_eq 200 102 rfl (by decide) (fun _ => ?_) (fun _ => ?_)
                · refine S.sub (lv' := [(0, .ref 81)]) [0] rfl ?_
                  exact hj27 _
                · refine S.aload_n 103 0 rfl rfl ?_
                  refine S.dup 104 rfl rfl ?_
                  refine S.getI 105 rfl fo_X12_291 rfl rfl ?_
                  refine S.iconst (1 : Int32) 106 rfl (by decide) ?_
                  refine S.aload_n 107 0 rfl rfl ?_
                  refine S.getI 108 rfl fo_X12_282 rfl rfl ?_
                  refine S.ishl 109 rfl ?_
                  refine S.ior 110 rfl ?_
                  refine S.putI 111 rfl fo_X12_291 rfl rfl rfl rfl (fun _ hq => by cases hq; exact Or.inl rfl) (fun I30 => ?_)
                  refine S.sub (lv' := [(0, .ref 81)]) [0] rfl ?_
                  exact hj27 _
            · refine S.if_eq 173 87 rfl (by decide) (fun _ => ?_) (fun _ => ?_)
              · refine S.sub (lv' := [(0, .ref 81), (2, .int l2)]) [0, 2] rfl ?_
                exact hj24 _
              · refine S.aload_n 88 0 rfl rfl ?_
                refine S.dup 89 rfl rfl ?_
                refine S.getI 90 rfl fo_X12_288 rfl rfl ?_
                refine S.iconst (1 : Int32) 91 rfl (by decide) ?_
                refine S.aload_n 92 0 rfl rfl ?_
                refine S.getI 93 rfl fo_X12_282 rfl rfl ?_
                refine S.ishl 94 rfl ?_
                refine S.ior 95 rfl ?_
                refine S.putI 96 rfl fo_X12_288 rfl rfl rfl rfl (fun _ hq => by cases hq; exact Or.inl rfl) (fun I31 => ?_)
                refine S.sub (lv' := [(0, .ref 81), (2, .int l2)]) [0, 2] rfl ?_
                exact hj24 _
          · refine S.if_eq 138 74 rfl (by decide) (fun _ => ?_) (fun _ => ?_)
            · refine S.aload_n 78 0 rfl rfl ?_
              refine S.getI 79 rfl fo_X12_285 rfl rfl ?_
              refine S.sub (lv' := [(0, .ref 81), (1, .int l1), (2, .int l2)]) [0, 1, 2] rfl ?_
              exact hj20 _
            · refine S.aload_n 75 0 rfl rfl ?_
              refine S.getI 76 rfl fo_X12_282 rfl rfl ?_
              refine S.goto 142 77 rfl (by decide) ?_
              refine S.sub (lv' := [(0, .ref 81), (1, .int l1), (2, .int l2)]) [0, 1, 2] rfl ?_
              exact hj20 _
        · refine S.if_eq 122 61 rfl (by decide) (fun _ => ?_) (fun _ => ?_)
          · exact hj18
          · refine S.iload_n 62 1 rfl rfl ?_
            refine S.i2l 63 rfl ?_
            refine S.aload_n 64 0 rfl rfl ?_
            refine S.getI 65 rfl fo_X12_285 rfl rfl ?_
            refine S.qSI (d := 1) (av := [.long (Int32.toInt64 l1), .int (I12 m_self f_Model_laidB)]) (rs := [.int (I12 m_self f_Model_laidB), .long (Int32.toInt64 l1)]) 66 rfl co_X12_294 rfl rfl ⟨⟨Nat.le_of_ble_eq_true rfl, Nat.le_of_ble_eq_true rfl⟩, ⟨Nat.le_of_ble_eq_true rfl, Nat.le_of_ble_eq_true rfl⟩, Nat.le_of_ble_eq_true rfl⟩ (cm_X12_has (zs b, I12, J) (Int32.toInt64 l1) (I12 m_self f_Model_laidB)) (fun r32 => ?_)
            refine S.if_eq 122 67 rfl (by decide) (fun _ => ?_) (fun _ => ?_)
            · exact hj18
            · refine S.iconst (0 : Int32) 68 rfl (by decide) ?_
              exact S.iret 69 rfl rfl rfl (Nat.le_refl _) (Nat.le_refl _) rfl
      · refine S.if_eq 96 49 rfl (by decide) (fun _ => ?_) (fun _ => ?_)
        · refine S.sub (lv' := [(0, .ref 81), (1, .int l1), (2, .int l2), (3, .int r14)]) [1, 2, 3, 0] rfl ?_
          exact hj16
        · refine S.iload_n 50 3 rfl rfl ?_
          refine S.i2l 51 rfl ?_
          refine S.aload_n 52 1 rfl rfl ?_
          refine S.getI 53 rfl fo_X12_285 rfl rfl ?_
          refine S.qSI (d := 1) (av := [.long (Int32.toInt64 l2), .int (I12 m_self f_Model_laidB)]) (rs := [.int (I12 m_self f_Model_laidB), .long (Int32.toInt64 l2)]) 54 rfl co_X12_294 rfl rfl ⟨⟨Nat.le_of_ble_eq_true rfl, Nat.le_of_ble_eq_true rfl⟩, ⟨Nat.le_of_ble_eq_true rfl, Nat.le_of_ble_eq_true rfl⟩, Nat.le_of_ble_eq_true rfl⟩ (cm_X12_has (zs b, I12, J) (Int32.toInt64 l2) (I12 m_self f_Model_laidB)) (fun r33 => ?_)
          refine S.if_ne 120 55 rfl (by decide) (fun _ => ?_) (fun _ => ?_)
          · refine S.iconst (0 : Int32) 68 rfl (by decide) ?_
            exact S.iret 69 rfl rfl rfl (Nat.le_refl _) (Nat.le_refl _) rfl
          · refine S.sub (lv' := [(0, .ref 81), (1, .int l1), (2, .int l2), (3, .int r14)]) [1, 2, 3, 0] rfl ?_
            exact hj16
  · refine S.icmp_ne 52 9 rfl (by decide) (fun _ => ?_) (fun _ => ?_)
    · exact hj13 _
    · refine S.aload_n 10 0 rfl rfl ?_
      refine S.dup 11 rfl rfl ?_
      refine S.getI 12 rfl fo_X12_288 rfl rfl ?_
      refine S.iconst (1 : Int32) 13 rfl (by decide) ?_
      refine S.aload_n 14 0 rfl rfl ?_
      refine S.getI 15 rfl fo_X12_282 rfl rfl ?_
      refine S.ishl 16 rfl ?_
      refine S.iconst (-1 : Int32) 17 rfl (by decide) ?_
      refine S.ixor 18 rfl ?_
      refine S.iand 19 rfl ?_
      refine S.putI 20 rfl fo_X12_288 rfl rfl rfl rfl (fun _ hq => by cases hq; exact Or.inl rfl) (fun I34 => ?_)
      refine S.aload_n 21 0 rfl rfl ?_
      refine S.dup 22 rfl rfl ?_
      refine S.getI 23 rfl fo_X12_291 rfl rfl ?_
      refine S.iconst (1 : Int32) 24 rfl (by decide) ?_
      refine S.aload_n 25 0 rfl rfl ?_
      refine S.getI 26 rfl fo_X12_282 rfl rfl ?_
      refine S.ishl 27 rfl ?_
      refine S.iconst (-1 : Int32) 28 rfl (by decide) ?_
      refine S.ixor 29 rfl ?_
      refine S.iand 30 rfl ?_
      refine S.putI 31 rfl fo_X12_291 rfl rfl rfl rfl (fun _ hq => by cases hq; exact Or.inl rfl) (fun I35 => ?_)
      exact hj13 _
def F_X12_ohmsOf (l1 : Int32) (I : HI) (J : HJ) : Option Int32 :=
  lb (
  bx l1 10 <|
  some (I m_ohm (Int32.toNatClampNeg l1))) fun j1 =>
  if (I m_self f_Model_laidKind) = (2 : Int32) then
    if l1 = (I m_self f_Model_laidA) then
      some (I m_self f_Model_ohmsTouch)
    else
      j1
  else
    j1
set_option maxRecDepth 100000 in
theorem cm_X12_ohmsOf (b : Bool) (l1 : Int32) (I : HI) (J : HJ) : CM mX12_ohmsOf 1 0 0 [.ref 81, .int l1] (zs b, I, J) (pI (zs b, I, J)) (F_X12_ohmsOf l1 I J) := by
  refine S.of okX12_ohmsOf pn_X12 (Nat.le_of_ble_eq_true rfl) ?_
  refine S.sub (lv' := [(0, .ref 81), (1, .int l1)]) [0, 1] rfl ?_
  unfold F_X12_ohmsOf
  refine S.aload_n 0 0 rfl rfl ?_
  refine S.getI 1 rfl fo_X12_279 rfl rfl ?_
  refine S.iconst (2 : Int32) 2 rfl (by decide) ?_
  refine S.jn (fun j => S (pI (zs b, I, J)) mX12_ohmsOf (rmd 1 0 0) 0 0 (0, 0) 23 [(0, .ref 81), (1, .int l1)] [] (zs b, I, J) (j)) ?_ (fun j1 hj1 => ?_)
  · refine S.aload_n 11 0 rfl rfl ?_
    refine S.getR 12 rfl fo_X12_23 rfl rfl rfl ?_
    refine S.iload_n 13 1 rfl rfl ?_
    refine S.iald 14 rfl rfl ?_
    exact S.iret 15 rfl rfl rfl (Nat.le_refl _) (Nat.le_refl _) rfl
  · refine S.icmp_ne 23 3 rfl (by decide) (fun _ => ?_) (fun _ => ?_)
    · exact hj1
    · refine S.iload_n 4 1 rfl rfl ?_
      refine S.aload_n 5 0 rfl rfl ?_
      refine S.getI 6 rfl fo_X12_282 rfl rfl ?_
      refine S.icmp_ne 23 7 rfl (by decide) (fun _ => ?_) (fun _ => ?_)
      · exact hj1
      · refine S.aload_n 8 0 rfl rfl ?_
        refine S.getI 9 rfl fo_X12_298 rfl rfl ?_
        refine S.goto 29 10 rfl (by decide) ?_
        exact S.iret 15 rfl rfl rfl (Nat.le_refl _) (Nat.le_refl _) rfl
def F_X12_isBetter_L49 (l3 : Int32) (I : HI) (J : HJ) (kx72 : Int32 → Option Int32) : Nat → Int32 → Option Int32
  | 0, _ => none
  | K+1, l4 =>
    if l3 ≤ l4 then
      some (0 : Int32)
    else
      bx l4 3 <|
      bx l4 3 <|
      if (I m_path (Int32.toNatClampNeg l4)) = (I m_bestPath (Int32.toNatClampNeg l4)) then
        F_X12_isBetter_L49 l3 I J kx72 K (l4 + 1)
      else
        kx72 l4
set_option maxRecDepth 100000 in
theorem s_X12_isBetter_L49 (b : Bool) (l3 : Int32) (I : HI) (J : HJ) (kx72 : Int32 → Option Int32) (hkx72 : ∀ (y4 : Int32), S (pI (zs b, I, J)) mX12_isBetter (rmd 1 0 0) 0 0 (0, 0) 72 [(0, .ref 81), (4, .int y4)] [] (zs b, I, J) (kx72 y4)) : ∀ (K : Nat) (l4 : Int32), S (pI (zs b, I, J)) mX12_isBetter (rmd 1 0 0) 0 0 (0, 0) 49 [(0, .ref 81), (3, .int l3), (4, .int l4)] [] (zs b, I, J) (F_X12_isBetter_L49 l3 I J kx72 K l4) := by
  intro K
  induction K with
  | zero => intro l4; exact S.none
  | succ K ih =>
    intro l4
    rw [F_X12_isBetter_L49]
    refine S.iload 28 2 rfl rfl ?_
    refine S.iload_n 29 1 rfl rfl ?_
    refine S.icmp_ge 101 30 rfl (by decide) (fun _ => ?_) (fun _ => ?_)
    · refine S.iconst (0 : Int32) 55 rfl (by decide) ?_
      exact S.iret 56 rfl rfl rfl (Nat.le_refl _) (Nat.le_refl _) rfl
    · refine S.aload_n 31 0 rfl rfl ?_
      refine S.getR 32 rfl fo_X12_61 rfl rfl rfl ?_
      refine S.iload 33 2 rfl rfl ?_
      refine S.iald 34 rfl rfl ?_
      refine S.aload_n 35 0 rfl rfl ?_
      refine S.getR 36 rfl fo_X12_67 rfl rfl rfl ?_
      refine S.iload 37 2 rfl rfl ?_
      refine S.iald 38 rfl rfl ?_
      refine S.icmp_eq 95 39 rfl (by decide) (fun _ => ?_) (fun _ => ?_)
      · refine S.iinc (l4 + 1) [(4, .int (l4 + 1)), (0, .ref 81), (3, .int l3)] 53 2 rfl rfl rfl (by decide) rfl ?_
        refine S.goto 49 54 rfl (by decide) ?_
        refine S.sub (lv' := [(0, .ref 81), (3, .int l3), (4, .int (l4 + 1))]) [1, 2, 0] rfl ?_
        exact ih _
      · refine S.sub (lv' := [(0, .ref 81), (4, .int l4)]) [0, 2] rfl ?_
        exact hkx72 _
def F_X12_isBetter (l1 : Int64) (l3 : Int32) (I : HI) (J : HJ) : Option Int32 :=
  if (lg_cmp l1 (J m_self f_Model_bestCarry)) = 0 then
    if l3 = (I m_self f_Model_bestMany) then
      F_X12_isBetter_L49 l3 I J (fun (y1 : Int32) =>
      bx y1 3 <|
      bx y1 3 <|
      if (I m_bestPath (Int32.toNatClampNeg y1)) ≤ (I m_path (Int32.toNatClampNeg y1)) then
        some (0 : Int32)
      else
        some (1 : Int32)) bgf (0 : Int32)
    else
      if (I m_self f_Model_bestMany) ≤ l3 then
        some (0 : Int32)
      else
        some (1 : Int32)
  else
    if (lg_cmp l1 (J m_self f_Model_bestCarry)) ≤ 0 then
      some (0 : Int32)
    else
      some (1 : Int32)
set_option maxRecDepth 100000 in
theorem cm_X12_isBetter (b : Bool) (l1 : Int64) (l3 : Int32) (I : HI) (J : HJ) : CM mX12_isBetter 1 0 0 [.ref 81, .long l1, .int l3] (zs b, I, J) (pI (zs b, I, J)) (F_X12_isBetter l1 l3 I J) := by
  refine S.of okX12_isBetter pn_X12 (Nat.le_of_ble_eq_true rfl) ?_
  refine S.sub (lv' := [(0, .ref 81), (1, .long l1), (3, .int l3)]) [0, 1, 2] rfl ?_
  unfold F_X12_isBetter
  refine S.lload_n 0 1 rfl rfl ?_
  refine S.aload_n 1 0 rfl rfl ?_
  refine S.getJ 2 rfl fo_X12_328 rfl rfl ?_
  refine S.lcmp 3 rfl ?_
  refine S.if_eq 24 4 rfl (by decide) (fun _ => ?_) (fun _ => ?_)
  · refine S.iload_n 14 2 rfl rfl ?_
    refine S.aload_n 15 0 rfl rfl ?_
    refine S.getI 16 rfl fo_X12_332 rfl rfl ?_
    refine S.icmp_eq 46 17 rfl (by decide) (fun _ => ?_) (fun _ => ?_)
    · refine S.iconst (0 : Int32) 26 rfl (by decide) ?_
      refine S.istore [(4, .int (0 : Int32)), (0, .ref 81), (1, .long l1), (3, .int l3)] 27 rfl (by decide) rfl ?_
      refine S.sub (lv' := [(0, .ref 81), (3, .int l3), (4, .int (0 : Int32))]) [1, 3, 0] rfl ?_
      refine s_X12_isBetter_L49 b _ _ _ _ (fun y1 => ?_) bgf _
      refine S.aload_n 40 0 rfl rfl ?_
      refine S.getR 41 rfl fo_X12_61 rfl rfl rfl ?_
      refine S.iload 42 1 rfl rfl ?_
      refine S.iald 43 rfl rfl ?_
      refine S.aload_n 44 0 rfl rfl ?_
      refine S.getR 45 rfl fo_X12_67 rfl rfl rfl ?_
      refine S.iload 46 1 rfl rfl ?_
      refine S.iald 47 rfl rfl ?_
      refine S.icmp_ge 93 48 rfl (by decide) (fun _ => ?_) (fun _ => ?_)
      · refine S.iconst (0 : Int32) 51 rfl (by decide) ?_
        exact S.iret 52 rfl rfl rfl (Nat.le_refl _) (Nat.le_refl _) rfl
      · refine S.iconst (1 : Int32) 49 rfl (by decide) ?_
        refine S.goto 94 50 rfl (by decide) ?_
        exact S.iret 52 rfl rfl rfl (Nat.le_refl _) (Nat.le_refl _) rfl
    · refine S.iload_n 18 2 rfl rfl ?_
      refine S.aload_n 19 0 rfl rfl ?_
      refine S.getI 20 rfl fo_X12_332 rfl rfl ?_
      refine S.icmp_ge 44 21 rfl (by decide) (fun _ => ?_) (fun _ => ?_)
      · refine S.iconst (0 : Int32) 24 rfl (by decide) ?_
        exact S.iret 25 rfl rfl rfl (Nat.le_refl _) (Nat.le_refl _) rfl
      · refine S.iconst (1 : Int32) 22 rfl (by decide) ?_
        refine S.goto 45 23 rfl (by decide) ?_
        exact S.iret 25 rfl rfl rfl (Nat.le_refl _) (Nat.le_refl _) rfl
  · refine S.lload_n 5 1 rfl rfl ?_
    refine S.aload_n 6 0 rfl rfl ?_
    refine S.getJ 7 rfl fo_X12_328 rfl rfl ?_
    refine S.lcmp 8 rfl ?_
    refine S.if_le 22 9 rfl (by decide) (fun _ => ?_) (fun _ => ?_)
    · refine S.iconst (0 : Int32) 12 rfl (by decide) ?_
      exact S.iret 13 rfl rfl rfl (Nat.le_refl _) (Nat.le_refl _) rfl
    · refine S.iconst (1 : Int32) 10 rfl (by decide) ?_
      refine S.goto 23 11 rfl (by decide) ?_
      exact S.iret 13 rfl rfl rfl (Nat.le_refl _) (Nat.le_refl _) rfl
def F_X12_arrive_L30 (l1 : Int32) (l2 : Int32) (l3 : Int32) (l5 : Int64) (kx140 : Int32 → HI → HJ → Option (Unit × HI × HJ)) : Nat → Int32 → Int32 → HI → HJ → Option (Unit × HI × HJ)
  | 0, _, _, _, _ => none
  | K+1, l7, l8, I, J =>
    if l3 ≤ l8 then
      kx140 l7 I J
    else
      bx l8 3 <|
      bx (I m_path (Int32.toNatClampNeg l8)) 60 <|
      bx (I m_path (Int32.toNatClampNeg l8)) 60 <|
      lb (uj J m_light (Int32.toNatClampNeg (I m_path (Int32.toNatClampNeg l8))) ((J m_light (Int32.toNatClampNeg (I m_path (Int32.toNatClampNeg l8)))) + l5)) fun J13 =>
      lb (fun (y14 : Int32) =>
      lb (fun (I16 : HI) (J17 : HJ) =>
      F_X12_arrive_L30 l1 l2 l3 l5 kx140 K y14 (l8 + 1) I16 J17) fun j18 =>
      if (I m_self f_Model_isCounted) = 0 then
        j18 I J13
      else
        bx l8 3 <|
        bx (I m_path (Int32.toNatClampNeg l8)) 60 <|
        bx (I m_path (Int32.toNatClampNeg l8)) 60 <|
        lb (ui I m_through (Int32.toNatClampNeg (I m_path (Int32.toNatClampNeg l8))) ((I m_through (Int32.toNatClampNeg (I m_path (Int32.toNatClampNeg l8)))) + (1 : Int32))) fun I19 =>
        bx l8 3 <|
        bx l8 3 <|
        bx (I19 m_path (Int32.toNatClampNeg l8)) 60 <|
        bx (I19 m_path (Int32.toNatClampNeg l8)) 60 <|
        lb (uj J13 m_mostOne (Int32.toNatClampNeg (I19 m_path (Int32.toNatClampNeg l8))) (omaxl (J13 m_mostOne (Int32.toNatClampNeg (I19 m_path (Int32.toNatClampNeg l8)))) l5)) fun J20 =>
        j18 I19 J20) fun j15 =>
      lb (
      j15 (1 : Int32)) fun j21 =>
      if l7 = 0 then
        bx l8 3 <|
        if (I m_path (Int32.toNatClampNeg l8)) = (I m_self f_Model_asked) then
          j21
        else
          j15 (0 : Int32)
      else
        j21
set_option maxRecDepth 100000 in
theorem s_X12_arrive_L30 (b : Bool) (l1 : Int32) (l2 : Int32) (l3 : Int32) (l5 : Int64) (kx140 : Int32 → HI → HJ → Option (Unit × HI × HJ)) (hkx140 : ∀ (y7 : Int32) (I1 : HI) (J1 : HJ), S (fV (zs b)) mX12_arrive (rmd 2 0 0) 0 0 (0, 0) 140 [(0, .ref 81), (1, .int l1), (2, .int l2), (3, .int l3), (5, .long l5), (7, .int y7)] [] (zs b, I1, J1) (kx140 y7 I1 J1)) : ∀ (K : Nat) (l7 : Int32) (l8 : Int32) (I : HI) (J : HJ), S (fV (zs b)) mX12_arrive (rmd 2 0 0) 0 0 (0, 0) 30 [(0, .ref 81), (1, .int l1), (2, .int l2), (3, .int l3), (5, .long l5), (7, .int l7), (8, .int l8)] [] (zs b, I, J) (F_X12_arrive_L30 l1 l2 l3 l5 kx140 K l7 l8 I J) := by
  intro K
  induction K with
  | zero => intro l7 l8 I J; exact S.none
  | succ K ih =>
    intro l7 l8 I J
    rw [F_X12_arrive_L30]
    refine S.iload 20 6 rfl rfl ?_
    refine S.iload_n 21 3 rfl rfl ?_
    refine S.icmp_ge 140 22 rfl (by decide) (fun _ => ?_) (fun _ => ?_)
    · refine S.sub (lv' := [(0, .ref 81), (1, .int l1), (2, .int l2), (3, .int l3), (5, .long l5), (7, .int l7)]) [0, 1, 2, 3, 4, 5] rfl ?_
      exact hkx140 _ _ _
    · refine S.aload_n 23 0 rfl rfl ?_
      refine S.getR 24 rfl fo_X12_49 rfl rfl rfl ?_
      refine S.aload_n 25 0 rfl rfl ?_
      refine S.getR 26 rfl fo_X12_61 rfl rfl rfl ?_
      refine S.iload 27 6 rfl rfl ?_
      refine S.iald 28 rfl rfl ?_
      refine S.dup2_11 29 rfl rfl rfl ?_
      refine S.lald 30 rfl rfl ?_
      refine S.lload 31 4 rfl rfl ?_
      refine S.ladd 32 rfl ?_
      refine S.last 33 rfl rfl (fun J13 => ?_)
      refine S.iload 34 5 rfl rfl ?_
      refine S.jn (fun j => ∀ (y14 : Int32), S (fV (zs b)) mX12_arrive (rmd 2 0 0) 0 0 (0, 0) 77 [(0, .ref 81), (1, .int l1), (2, .int l2), (3, .int l3), (5, .long l5), (8, .int l8)] [.int y14] (zs b, I, J13) (j y14)) (fun y14 => ?_) (fun j15 hj15 => ?_)
      · refine S.istore [(7, .int y14), (0, .ref 81), (1, .int l1), (2, .int l2), (3, .int l3), (5, .long l5), (8, .int l8)] 46 rfl (by decide) rfl ?_
        refine S.aload_n 47 1 rfl rfl ?_
        refine S.getI 48 rfl fo_X12_301 rfl rfl ?_
        refine S.jn (fun j => ∀ (I16 : HI) (J17 : HJ), S (fV (zs b)) mX12_arrive (rmd 2 0 0) 0 0 (0, 0) 134 [(0, .ref 81), (1, .int l1), (2, .int l2), (3, .int l3), (5, .long l5), (7, .int y14), (8, .int l8)] [] (zs b, I16, J17) (j I16 J17)) (fun I16 J17 => ?_) (fun j18 hj18 => ?_)
        · refine S.iinc (l8 + 1) [(8, .int (l8 + 1)), (0, .ref 81), (1, .int l1), (2, .int l2), (3, .int l3), (5, .long l5), (7, .int y14)] 78 6 rfl rfl rfl (by decide) rfl ?_
          refine S.goto 30 79 rfl (by decide) ?_
          refine S.sub (lv' := [(0, .ref 81), (1, .int l1), (2, .int l2), (3, .int l3), (5, .long l5), (7, .int y14), (8, .int (l8 + 1))]) [1, 2, 3, 4, 5, 6, 0] rfl ?_
          exact ih _ _ _ _
        · refine S.if_ne 89 49 rfl (by decide) (fun _ => ?_) (fun _ => ?_)
          · refine S.aload_n 51 1 rfl rfl ?_
            refine S.getR 52 rfl fo_X12_52 rfl rfl rfl ?_
            refine S.aload_n 53 1 rfl rfl ?_
            refine S.getR 54 rfl fo_X12_61 rfl rfl rfl ?_
            refine S.iload 55 6 rfl rfl ?_
            refine S.iald 56 rfl rfl ?_
            refine S.dup2_11 57 rfl rfl rfl ?_
            refine S.iald 58 rfl rfl ?_
            refine S.iconst (1 : Int32) 59 rfl (by decide) ?_
            refine S.iadd 60 rfl ?_
            refine S.iast 61 rfl rfl (fun I19 => ?_)
            refine S.aload_n 62 1 rfl rfl ?_
            refine S.getR 63 rfl fo_X12_55 rfl rfl rfl ?_
            refine S.aload_n 64 1 rfl rfl ?_
            refine S.getR 65 rfl fo_X12_61 rfl rfl rfl ?_
            refine S.iload 66 6 rfl rfl ?_
            refine S.iald 67 rfl rfl ?_
            refine S.aload_n 68 1 rfl rfl ?_
            refine S.getR 69 rfl fo_X12_55 rfl rfl rfl ?_
            refine S.aload_n 70 1 rfl rfl ?_
            refine S.getR 71 rfl fo_X12_61 rfl rfl rfl ?_
            refine S.iload 72 6 rfl rfl ?_
            refine S.iald 73 rfl rfl ?_
            refine S.lald 74 rfl rfl ?_
            refine S.lload 75 5 rfl rfl ?_
            refine S.mmaxl 76 rfl co_X12_322 ⟨Nat.le_of_ble_eq_true rfl, Nat.le_of_ble_eq_true rfl, Nat.le_of_ble_eq_true rfl, Nat.le_of_ble_eq_true rfl, Nat.le_of_ble_eq_true rfl⟩ ?_
            refine S.last 77 rfl rfl (fun J20 => ?_)
            refine S.sub (lv' := [(0, .ref 81), (1, .int l1), (2, .int l2), (3, .int l3), (5, .long l5), (7, .int y14), (8, .int l8)]) [1, 2, 3, 4, 5, 0, 6] rfl ?_
            exact hj18 _ _
          · refine S.goto 134 50 rfl (by decide) ?_
            refine S.sub (lv' := [(0, .ref 81), (1, .int l1), (2, .int l2), (3, .int l3), (5, .long l5), (7, .int y14), (8, .int l8)]) [1, 2, 3, 4, 5, 0, 6] rfl ?_
            exact hj18 _ _
      · refine S.jn (fun j => S (fV (zs b)) mX12_arrive (rmd 2 0 0) 0 0 (0, 0) 72 [(0, .ref 81), (1, .int l1), (2, .int l2), (3, .int l3), (5, .long l5), (8, .int l8)] [] (zs b, I, J13) (j)) ?_ (fun j21 hj21 => ?_)
        · refine S.iconst (1 : Int32) 43 rfl (by decide) ?_
          refine S.goto 77 44 rfl (by decide) ?_
          exact hj15 _
        · refine S.if_ne 72 35 rfl (by decide) (fun _ => ?_) (fun _ => ?_)
          · refine S.sub (lv' := [(0, .ref 81), (1, .int l1), (2, .int l2), (3, .int l3), (5, .long l5), (8, .int l8)]) [0, 1, 2, 3, 4, 6] rfl ?_
            exact hj21
          · refine S.aload_n 36 0 rfl rfl ?_
            refine S.getR 37 rfl fo_X12_61 rfl rfl rfl ?_
            refine S.iload 38 6 rfl rfl ?_
            refine S.iald 39 rfl rfl ?_
            refine S.aload_n 40 0 rfl rfl ?_
            refine S.getI 41 rfl fo_X12_64 rfl rfl ?_
            refine S.icmp_ne 76 42 rfl (by decide) (fun _ => ?_) (fun _ => ?_)
            · refine S.iconst (0 : Int32) 45 rfl (by decide) ?_
              refine S.sub (lv' := [(0, .ref 81), (1, .int l1), (2, .int l2), (3, .int l3), (5, .long l5), (8, .int l8)]) [0, 1, 2, 3, 4, 6] rfl ?_
              exact hj15 _
            · refine S.sub (lv' := [(0, .ref 81), (1, .int l1), (2, .int l2), (3, .int l3), (5, .long l5), (8, .int l8)]) [0, 1, 2, 3, 4, 6] rfl ?_
              exact hj21
def F_X12_arrive_L200 (l3 : Int32) (J : HJ) : Nat → Int32 → HI → Option (Unit × HI × HJ)
  | 0, _, _ => none
  | K+1, l8, I =>
    if l3 ≤ l8 then
      some ((), I, J)
    else
      bx l8 3 <|
      bx l8 3 <|
      lb (ui I m_bestPath (Int32.toNatClampNeg l8) (I m_path (Int32.toNatClampNeg l8))) fun I30 =>
      F_X12_arrive_L200 l3 J K (l8 + 1) I30
set_option maxRecDepth 100000 in
theorem s_X12_arrive_L200 (b : Bool) (l3 : Int32) (J : HJ) : ∀ (K : Nat) (l8 : Int32) (I : HI), S (fV (zs b)) mX12_arrive (rmd 2 0 0) 0 0 (0, 0) 200 [(0, .ref 81), (3, .int l3), (8, .int l8)] [] (zs b, I, J) (F_X12_arrive_L200 l3 J K l8 I) := by
  intro K
  induction K with
  | zero => intro l8 I; exact S.none
  | succ K ih =>
    intro l8 I
    rw [F_X12_arrive_L200]
    refine S.iload 116 2 rfl rfl ?_
    refine S.iload_n 117 1 rfl rfl ?_
    refine S.icmp_ge 226 118 rfl (by decide) (fun _ => ?_) (fun _ => ?_)
    · exact S.vret 129 rfl rfl (Nat.le_refl _) (Nat.le_refl _) rfl
    · refine S.aload_n 119 0 rfl rfl ?_
      refine S.getR 120 rfl fo_X12_67 rfl rfl rfl ?_
      refine S.iload 121 2 rfl rfl ?_
      refine S.aload_n 122 0 rfl rfl ?_
      refine S.getR 123 rfl fo_X12_61 rfl rfl rfl ?_
      refine S.iload 124 2 rfl rfl ?_
      refine S.iald 125 rfl rfl ?_
      refine S.iast 126 rfl rfl (fun I30 => ?_)
      refine S.iinc (l8 + 1) [(8, .int (l8 + 1)), (0, .ref 81), (3, .int l3)] 127 2 rfl rfl rfl (by decide) rfl ?_
      refine S.goto 200 128 rfl (by decide) ?_
      refine S.sub (lv' := [(0, .ref 81), (3, .int l3), (8, .int (l8 + 1))]) [1, 2, 0] rfl ?_
      exact ih _ _
def F_X12_arrive (l1 : Int32) (l2 : Int32) (l3 : Int32) (l4 : Int32) (I : HI) (J : HJ) : Option (Unit × HI × HJ) :=
  cp (F_X12_ohmsOf l1 I J) fun r10 =>
  cp (F_X12_ohmsOf l2 I J) fun r11 =>
  nzl (Int32.toInt64 ((r10 + r11) + l3)) <|
  lb ((((27720 : Int64) * (Int32.toInt64 l4)) / (Int32.toInt64 ((r10 + r11) + l3)))) fun x12 =>
  F_X12_arrive_L30 l1 l2 l3 x12 (fun (y22 : Int32) (I23 : HI) (J24 : HJ) =>
  if (I23 m_self f_Model_isCounted) = 0 then
    some ((), I23, J24)
  else
    bx l1 10 <|
    bx l1 10 <|
    lb (uj J24 m_drawn (Int32.toNatClampNeg l1) ((J24 m_drawn (Int32.toNatClampNeg l1)) + x12)) fun J25 =>
    bx l2 10 <|
    bx l2 10 <|
    lb (uj J25 m_drawn (Int32.toNatClampNeg l2) ((J25 m_drawn (Int32.toNatClampNeg l2)) + x12)) fun J26 =>
    if y22 = 0 then
      some ((), I23, J26)
    else
      cp (F_X12_isBetter x12 l3 I23 J26) fun r27 =>
      if r27 = 0 then
        some ((), I23, J26)
      else
        lb (uj J26 m_self f_Model_bestCarry x12) fun J28 =>
        lb (ui I23 m_self f_Model_bestMany l3) fun I29 =>
        F_X12_arrive_L200 l3 J28 bgf (0 : Int32) I29) bgf (0 : Int32) (0 : Int32) I J
set_option maxRecDepth 100000 in
theorem cm_X12_arrive (b : Bool) (l1 : Int32) (l2 : Int32) (l3 : Int32) (l4 : Int32) (I : HI) (J : HJ) : CM mX12_arrive 2 0 0 [.ref 81, .int l1, .int l2, .int l3, .int l4] (zs b, I, J) (fV (zs b)) (F_X12_arrive l1 l2 l3 l4 I J) := by
  refine S.of okX12_arrive pn_X12 (Nat.le_of_ble_eq_true rfl) ?_
  refine S.sub (lv' := [(0, .ref 81), (1, .int l1), (2, .int l2), (3, .int l3), (4, .int l4)]) [0, 1, 2, 3, 4] rfl ?_
  unfold F_X12_arrive
  refine S.ldc2 (27720 : Int64) 0 rfl ko_X12_317 ?_
  refine S.iload 1 4 rfl rfl ?_
  refine S.i2l 2 rfl ?_
  refine S.lmul 3 rfl ?_
  refine S.aload_n 4 0 rfl rfl ?_
  refine S.iload_n 5 1 rfl rfl ?_
  refine S.qVI (d := 1) (av := [.int l1]) (rs := [.int l1]) (b := 81) 6 rfl co_X12_319 rfl rfl rfl rfl rfl ⟨⟨Nat.le_of_ble_eq_true rfl, Nat.le_of_ble_eq_true rfl⟩, ⟨Nat.le_of_ble_eq_true rfl, Nat.le_of_ble_eq_true rfl⟩, Nat.le_of_ble_eq_true rfl⟩ (cm_X12_ohmsOf b l1 I J) (fun r10 => ?_)
  refine S.aload_n 7 0 rfl rfl ?_
  refine S.iload_n 8 2 rfl rfl ?_
  refine S.qVI (d := 1) (av := [.int l2]) (rs := [.int l2]) (b := 81) 9 rfl co_X12_319 rfl rfl rfl rfl rfl ⟨⟨Nat.le_of_ble_eq_true rfl, Nat.le_of_ble_eq_true rfl⟩, ⟨Nat.le_of_ble_eq_true rfl, Nat.le_of_ble_eq_true rfl⟩, Nat.le_of_ble_eq_true rfl⟩ (cm_X12_ohmsOf b l2 I J) (fun r11 => ?_)
  refine S.iadd 10 rfl ?_
  refine S.iload_n 11 3 rfl rfl ?_
  refine S.iadd 12 rfl ?_
  refine S.i2l 13 rfl ?_
  refine S.ldiv 14 rfl ?_
  refine S.nml (fun x12 => ?_)
  refine S.lstore [(5, .long x12), (0, .ref 81), (1, .int l1), (2, .int l2), (3, .int l3), (4, .int l4)] 15 rfl (by decide) rfl ?_
  refine S.iconst (0 : Int32) 16 rfl (by decide) ?_
  refine S.istore [(7, .int (0 : Int32)), (5, .long x12), (0, .ref 81), (1, .int l1), (2, .int l2), (3, .int l3), (4, .int l4)] 17 rfl (by decide) rfl ?_
  refine S.iconst (0 : Int32) 18 rfl (by decide) ?_
  refine S.istore [(8, .int (0 : Int32)), (7, .int (0 : Int32)), (5, .long x12), (0, .ref 81), (1, .int l1), (2, .int l2), (3, .int l3), (4, .int l4)] 19 rfl (by decide) rfl ?_
  refine S.sub (lv' := [(0, .ref 81), (1, .int l1), (2, .int l2), (3, .int l3), (5, .long x12), (7, .int (0 : Int32)), (8, .int (0 : Int32))]) [3, 4, 5, 6, 2, 1, 0] rfl ?_
  refine s_X12_arrive_L30 b _ _ _ _ _ (fun y22 I23 J24 => ?_) bgf _ _ _ _
  refine S.aload_n 80 0 rfl rfl ?_
  refine S.getI 81 rfl fo_X12_301 rfl rfl ?_
  refine S.if_ne 148 82 rfl (by decide) (fun _ => ?_) (fun _ => ?_)
  · refine S.aload_n 84 0 rfl rfl ?_
    refine S.getR 85 rfl fo_X12_58 rfl rfl rfl ?_
    refine S.iload_n 86 1 rfl rfl ?_
    refine S.dup2_11 87 rfl rfl rfl ?_
    refine S.lald 88 rfl rfl ?_
    refine S.lload 89 4 rfl rfl ?_
    refine S.ladd 90 rfl ?_
    refine S.last 91 rfl rfl (fun J25 => ?_)
    refine S.aload_n 92 0 rfl rfl ?_
    refine S.getR 93 rfl fo_X12_58 rfl rfl rfl ?_
    refine S.iload_n 94 2 rfl rfl ?_
    refine S.dup2_11 95 rfl rfl rfl ?_
    refine S.lald 96 rfl rfl ?_
    refine S.lload 97 4 rfl rfl ?_
    refine S.ladd 98 rfl ?_
    refine S.last 99 rfl rfl (fun J26 => ?_)
    refine S.iload 100 5 rfl rfl ?_
    refine S.if_eq 185 101 rfl (by decide) (fun _ => ?_) (fun _ => ?_)
    · exact S.vret 107 rfl rfl (Nat.le_refl _) (Nat.le_refl _) rfl
    · refine S.aload_n 102 0 rfl rfl ?_
      refine S.lload 103 4 rfl rfl ?_
      refine S.iload_n 104 3 rfl rfl ?_
      refine S.qVI (d := 1) (av := [.long x12, .int l3]) (rs := [.int l3, .long x12]) (b := 81) 105 rfl co_X12_325 rfl rfl rfl rfl rfl ⟨⟨Nat.le_of_ble_eq_true rfl, Nat.le_of_ble_eq_true rfl⟩, ⟨Nat.le_of_ble_eq_true rfl, Nat.le_of_ble_eq_true rfl⟩, Nat.le_of_ble_eq_true rfl⟩ (cm_X12_isBetter b x12 l3 I23 J26) (fun r27 => ?_)
      refine S.if_ne 186 106 rfl (by decide) (fun _ => ?_) (fun _ => ?_)
      · refine S.aload_n 108 0 rfl rfl ?_
        refine S.lload 109 4 rfl rfl ?_
        refine S.putJ 110 rfl fo_X12_328 rfl rfl rfl rfl (fun _ hq => by cases hq; exact Or.inl rfl) (fun J28 => ?_)
        refine S.aload_n 111 0 rfl rfl ?_
        refine S.iload_n 112 3 rfl rfl ?_
        refine S.putI 113 rfl fo_X12_332 rfl rfl rfl rfl (fun _ hq => by cases hq; exact Or.inl rfl) (fun I29 => ?_)
        refine S.iconst (0 : Int32) 114 rfl (by decide) ?_
        refine S.istore [(8, .int (0 : Int32)), (0, .ref 81), (1, .int l1), (2, .int l2), (3, .int l3), (5, .long x12), (7, .int y22)] 115 rfl (by decide) rfl ?_
        refine S.sub (lv' := [(0, .ref 81), (3, .int l3), (8, .int (0 : Int32))]) [1, 4, 0] rfl ?_
        refine s_X12_arrive_L200 b _ _ bgf _ _
      · exact S.vret 107 rfl rfl (Nat.le_refl _) (Nat.le_refl _) rfl
  · exact S.vret 83 rfl rfl (Nat.le_refl _) (Nat.le_refl _) rfl
def F_X12_goOn_L8 (rc : Int32 → Int32 → Int32 → Int32 → Int32 → HI → HJ → Option (Unit × HI × HJ)) (l1 : Int32) (l2 : Int32) (l3 : Int32) (l4 : Int32) (l5 : Int32) : Nat → Int32 → HI → HJ → Option (Unit × HI × HJ)
  | 0, _, _, _ => none
  | K+1, l6, I, J =>
    bx (l2 + (1 : Int32)) 11 <|
    if (I m_listFrom (Int32.toNatClampNeg (l2 + (1 : Int32)))) ≤ l6 then
      some ((), I, J)
    else
      bx l6 60 <|
      lb ((I m_goesTo (Int32.toNatClampNeg l6))) fun x6 =>
      bx l6 60 <|
      bx (I m_list (Int32.toNatClampNeg l6)) 60 <|
      lb ((l4 + (I m_volts (Int32.toNatClampNeg (I m_list (Int32.toNatClampNeg l6)))))) fun x7 =>
      cp (F_X12_has (Int32.toInt64 (l5 ||| (I m_self f_Model_high))) x6) fun r8 =>
      lb (fun (I9 : HI) (J10 : HJ) =>
      F_X12_goOn_L8 rc l1 l2 l3 l4 l5 K (l6 + 1) I9 J10) fun j11 =>
      if r8 = 0 then
        bx (0 : Int32) 3 <|
        if x7 < (I m_sets (Int32.toNatClampNeg (0 : Int32))) then
          bx l6 60 <|
          bx l3 3 <|
          lb (ui I m_path (Int32.toNatClampNeg l3) (I m_list (Int32.toNatClampNeg l6))) fun I12 =>
          cp (F_X12_has (Int32.toInt64 (I12 m_self f_Model_low)) x6) fun r13 =>
          if r13 = 0 then
            bx (1 : Int32) 3 <|
            if (I12 m_sets (Int32.toNatClampNeg (1 : Int32))) ≤ (l3 + (1 : Int32)) then
              j11 I12 J
            else
              cl (rc l1 x6 (l3 + (1 : Int32)) x7 (l5 ||| (oshl (1 : Int32) x6)) I12 J) fun _ I14 J15 =>
              j11 I14 J15
          else
            bx (0 : Int32) 3 <|
            cl (F_X12_arrive l1 x6 (l3 + (1 : Int32)) ((I12 m_sets (Int32.toNatClampNeg (0 : Int32))) - x7) I12 J) fun _ I16 J17 =>
            j11 I16 J17
        else
          j11 I J
      else
        j11 I J
set_option maxRecDepth 100000 in
theorem s_X12_goOn_L8 (b : Bool) (rc : Int32 → Int32 → Int32 → Int32 → Int32 → HI → HJ → Option (Unit × HI × HJ)) (dn : Nat) (hdn : 2 ≤ dn) (hrc : ∀ (a0 : Int32) (a1 : Int32) (a2 : Int32) (a3 : Int32) (a4 : Int32) (I : HI) (J : HJ), CM mX12_goOn dn 0 0 [.ref 81, .int a0, .int a1, .int a2, .int a3, .int a4] (zs b, I, J) (fV (zs b)) (rc a0 a1 a2 a3 a4 I J)) (l1 : Int32) (l2 : Int32) (l3 : Int32) (l4 : Int32) (l5 : Int32) : ∀ (K : Nat) (l6 : Int32) (I : HI) (J : HJ), S (fV (zs b)) mX12_goOn (rmd (dn + 1) 0 0) 0 0 (0, 0) 8 [(0, .ref 81), (1, .int l1), (2, .int l2), (3, .int l3), (4, .int l4), (5, .int l5), (6, .int l6)] [] (zs b, I, J) (F_X12_goOn_L8 rc l1 l2 l3 l4 l5 K l6 I J) := by
  intro K
  induction K with
  | zero => intro l6 I J; exact S.none
  | succ K ih =>
    intro l6 I J
    rw [F_X12_goOn_L8]
    refine S.iload 5 6 rfl rfl ?_
    refine S.aload_n 6 0 rfl rfl ?_
    refine S.getR 7 rfl fo_X12_40 rfl rfl rfl ?_
    refine S.iload_n 8 2 rfl rfl ?_
    refine S.iconst (1 : Int32) 9 rfl (by decide) ?_
    refine S.iadd 10 rfl ?_
    refine S.iald 11 rfl rfl ?_
    refine S.icmp_ge 162 12 rfl (by decide) (fun _ => ?_) (fun _ => ?_)
    · exact S.vret 94 rfl rfl (Nat.le_refl _) (Nat.le_refl _) rfl
    · refine S.aload_n 13 0 rfl rfl ?_
      refine S.getR 14 rfl fo_X12_46 rfl rfl rfl ?_
      refine S.iload 15 6 rfl rfl ?_
      refine S.iald 16 rfl rfl ?_
      refine S.nmi (fun x6 => ?_)
      refine S.istore [(7, .int x6), (0, .ref 81), (1, .int l1), (2, .int l2), (3, .int l3), (4, .int l4), (5, .int l5), (6, .int l6)] 17 rfl (by decide) rfl ?_
      refine S.iload 18 5 rfl rfl ?_
      refine S.aload_n 19 1 rfl rfl ?_
      refine S.getR 20 rfl fo_X12_20 rfl rfl rfl ?_
      refine S.aload_n 21 1 rfl rfl ?_
      refine S.getR 22 rfl fo_X12_43 rfl rfl rfl ?_
      refine S.iload 23 7 rfl rfl ?_
      refine S.iald 24 rfl rfl ?_
      refine S.iald 25 rfl rfl ?_
      refine S.iadd 26 rfl ?_
      refine S.nmi (fun x7 => ?_)
      refine S.istore [(8, .int x7), (7, .int x6), (0, .ref 81), (1, .int l1), (2, .int l2), (3, .int l3), (4, .int l4), (5, .int l5), (6, .int l6)] 27 rfl (by decide) rfl ?_
      refine S.iload 28 7 rfl rfl ?_
      refine S.aload_n 29 2 rfl rfl ?_
      refine S.getI 30 rfl fo_X12_288 rfl rfl ?_
      refine S.ior 31 rfl ?_
      refine S.i2l 32 rfl ?_
      refine S.iload 33 1 rfl rfl ?_
      refine S.qSI (d := 1) (av := [.long (Int32.toInt64 (l5 ||| (I m_self f_Model_high))), .int x6]) (rs := [.int x6, .long (Int32.toInt64 (l5 ||| (I m_self f_Model_high)))]) 34 rfl co_X12_294 rfl rfl ⟨⟨by show 1 + 1 ≤ dn + 1; omega, by show 8 + (3 + 11) + 64 * (1) ≤ 64 * (dn + 1); omega⟩, ⟨Nat.le_refl _, Nat.le_refl _⟩, Nat.le_of_ble_eq_true rfl⟩ (cm_X12_has (zs b, I, J) (Int32.toInt64 (l5 ||| (I m_self f_Model_high))) x6) (fun r8 => ?_)
      refine S.jn (fun j => ∀ (I9 : HI) (J10 : HJ), S (fV (zs b)) mX12_goOn (rmd (dn + 1) 0 0) 0 0 (0, 0) 156 [(0, .ref 81), (1, .int l1), (2, .int l2), (3, .int l3), (4, .int l4), (5, .int l5), (6, .int l6)] [] (zs b, I9, J10) (j I9 J10)) (fun I9 J10 => ?_) (fun j11 hj11 => ?_)
      · refine S.iinc (l6 + 1) [(6, .int (l6 + 1)), (0, .ref 81), (1, .int l1), (2, .int l2), (3, .int l3), (4, .int l4), (5, .int l5)] 92 6 rfl rfl rfl (by decide) rfl ?_
        refine S.goto 8 93 rfl (by decide) ?_
        refine S.sub (lv' := [(0, .ref 81), (1, .int l1), (2, .int l2), (3, .int l3), (4, .int l4), (5, .int l5), (6, .int (l6 + 1))]) [1, 2, 3, 4, 5, 6, 0] rfl ?_
        exact ih _ _ _
      · refine S.if_ne 156 35 rfl (by decide) (fun _ => ?_) (fun _ => ?_)
        · refine S.sub (lv' := [(0, .ref 81), (1, .int l1), (2, .int l2), (3, .int l3), (4, .int l4), (5, .int l5), (6, .int l6)]) [2, 3, 4, 5, 6, 7, 8] rfl ?_
          exact hj11 _ _
        · refine S.iload 36 0 rfl rfl ?_
          refine S.aload_n 37 2 rfl rfl ?_
          refine S.getR 38 rfl fo_X12_26 rfl rfl rfl ?_
          refine S.iconst (0 : Int32) 39 rfl (by decide) ?_
          refine S.iald 40 rfl rfl ?_
          refine S.icmp_lt 77 41 rfl (by decide) (fun _ => ?_) (fun _ => ?_)
          · refine S.aload_n 43 2 rfl rfl ?_
            refine S.getR 44 rfl fo_X12_61 rfl rfl rfl ?_
            refine S.iload_n 45 5 rfl rfl ?_
            refine S.aload_n 46 2 rfl rfl ?_
            refine S.getR 47 rfl fo_X12_43 rfl rfl rfl ?_
            refine S.iload 48 8 rfl rfl ?_
            refine S.iald 49 rfl rfl ?_
            refine S.iast 50 rfl rfl (fun I12 => ?_)
            refine S.aload_n 51 2 rfl rfl ?_
            refine S.getI 52 rfl fo_X12_291 rfl rfl ?_
            refine S.i2l 53 rfl ?_
            refine S.iload 54 1 rfl rfl ?_
            refine S.qSI (d := 1) (av := [.long (Int32.toInt64 (I12 m_self f_Model_low)), .int x6]) (rs := [.int x6, .long (Int32.toInt64 (I12 m_self f_Model_low))]) 55 rfl co_X12_294 rfl rfl ⟨⟨by show 1 + 1 ≤ dn + 1; omega, by show 8 + (3 + 11) + 64 * (1) ≤ 64 * (dn + 1); omega⟩, ⟨Nat.le_refl _, Nat.le_refl _⟩, Nat.le_of_ble_eq_true rfl⟩ (cm_X12_has (zs b, I12, J) (Int32.toInt64 (I12 m_self f_Model_low)) x6) (fun r13 => ?_)
            refine S.if_eq 125 56 rfl (by decide) (fun _ => ?_) (fun _ => ?_)
            · refine S.iload_n 71 5 rfl rfl ?_
              refine S.iconst (1 : Int32) 72 rfl (by decide) ?_
              refine S.iadd 73 rfl ?_
              refine S.aload_n 74 2 rfl rfl ?_
              refine S.getR 75 rfl fo_X12_26 rfl rfl rfl ?_
              refine S.iconst (1 : Int32) 76 rfl (by decide) ?_
              refine S.iald 77 rfl rfl ?_
              refine S.icmp_ge 156 78 rfl (by decide) (fun _ => ?_) (fun _ => ?_)
              · refine S.sub (lv' := [(0, .ref 81), (1, .int l1), (2, .int l2), (3, .int l3), (4, .int l4), (5, .int l5), (6, .int l6)]) [2, 3, 4, 5, 6, 7, 8] rfl ?_
                exact hj11 _ _
              · refine S.aload_n 79 2 rfl rfl ?_
                refine S.iload_n 80 3 rfl rfl ?_
                refine S.iload 81 1 rfl rfl ?_
                refine S.iload_n 82 5 rfl rfl ?_
                refine S.iconst (1 : Int32) 83 rfl (by decide) ?_
                refine S.iadd 84 rfl ?_
                refine S.iload 85 0 rfl rfl ?_
                refine S.iload 86 7 rfl rfl ?_
                refine S.iconst (1 : Int32) 87 rfl (by decide) ?_
                refine S.iload 88 1 rfl rfl ?_
                refine S.ishl 89 rfl ?_
                refine S.ior 90 rfl ?_
                refine S.cVV (d := dn) (av := [.int l1, .int x6, .int (l3 + (1 : Int32)), .int x7, .int (l5 ||| (oshl (1 : Int32) x6))]) (rs := [.int (l5 ||| (oshl (1 : Int32) x6)), .int x7, .int (l3 + (1 : Int32)), .int x6, .int l1]) (b := 81) 91 rfl co_X12_309 rfl rfl rfl rfl rfl ⟨⟨by show dn + 1 ≤ dn + 1; omega, by show 8 + (9 + 11) + 64 * (dn) ≤ 64 * (dn + 1); omega⟩, ⟨Nat.le_refl _, Nat.le_refl _⟩, Nat.le_of_ble_eq_true rfl⟩ (hrc l1 x6 (l3 + (1 : Int32)) x7 (l5 ||| (oshl (1 : Int32) x6)) I12 J) (fun _ I14 J15 => ?_)
                refine S.sub (lv' := [(0, .ref 81), (1, .int l1), (2, .int l2), (3, .int l3), (4, .int l4), (5, .int l5), (6, .int l6)]) [2, 3, 4, 5, 6, 7, 8] rfl ?_
                exact hj11 _ _
            · refine S.aload_n 57 2 rfl rfl ?_
              refine S.iload_n 58 3 rfl rfl ?_
              refine S.iload 59 1 rfl rfl ?_
              refine S.iload_n 60 5 rfl rfl ?_
              refine S.iconst (1 : Int32) 61 rfl (by decide) ?_
              refine S.iadd 62 rfl ?_
              refine S.aload_n 63 2 rfl rfl ?_
              refine S.getR 64 rfl fo_X12_26 rfl rfl rfl ?_
              refine S.iconst (0 : Int32) 65 rfl (by decide) ?_
              refine S.iald 66 rfl rfl ?_
              refine S.iload 67 0 rfl rfl ?_
              refine S.isub 68 rfl ?_
              refine S.cVV (d := 2) (av := [.int l1, .int x6, .int (l3 + (1 : Int32)), .int ((I12 m_sets (Int32.toNatClampNeg (0 : Int32))) - x7)]) (rs := [.int ((I12 m_sets (Int32.toNatClampNeg (0 : Int32))) - x7), .int (l3 + (1 : Int32)), .int x6, .int l1]) (b := 81) 69 rfl co_X12_313 rfl rfl rfl rfl rfl ⟨⟨by show 2 + 1 ≤ dn + 1; omega, by show 8 + (9 + 11) + 64 * (2) ≤ 64 * (dn + 1); omega⟩, ⟨Nat.le_refl _, Nat.le_refl _⟩, Nat.le_of_ble_eq_true rfl⟩ (cm_X12_arrive b l1 x6 (l3 + (1 : Int32)) ((I12 m_sets (Int32.toNatClampNeg (0 : Int32))) - x7) I12 J) (fun _ I16 J17 => ?_)
              refine S.goto 156 70 rfl (by decide) ?_
              refine S.sub (lv' := [(0, .ref 81), (1, .int l1), (2, .int l2), (3, .int l3), (4, .int l4), (5, .int l5), (6, .int l6)]) [2, 3, 4, 5, 6, 7, 8] rfl ?_
              exact hj11 _ _
          · refine S.goto 156 42 rfl (by decide) ?_
            refine S.sub (lv' := [(0, .ref 81), (1, .int l1), (2, .int l2), (3, .int l3), (4, .int l4), (5, .int l5), (6, .int l6)]) [2, 3, 4, 5, 6, 7, 8] rfl ?_
            exact hj11 _ _
def F_X12_goOn_B (rc : Int32 → Int32 → Int32 → Int32 → Int32 → HI → HJ → Option (Unit × HI × HJ)) (l1 : Int32) (l2 : Int32) (l3 : Int32) (l4 : Int32) (l5 : Int32) (I : HI) (J : HJ) : Option (Unit × HI × HJ) :=
  bx l2 11 <|
  lb ((I m_listFrom (Int32.toNatClampNeg l2))) fun x5 =>
  F_X12_goOn_L8 rc l1 l2 l3 l4 l5 bgf x5 I J
set_option maxRecDepth 100000 in
theorem cm_X12_goOn_B (b : Bool) (rc : Int32 → Int32 → Int32 → Int32 → Int32 → HI → HJ → Option (Unit × HI × HJ)) (dn : Nat) (hdn : 2 ≤ dn) (hrc : ∀ (a0 : Int32) (a1 : Int32) (a2 : Int32) (a3 : Int32) (a4 : Int32) (I : HI) (J : HJ), CM mX12_goOn dn 0 0 [.ref 81, .int a0, .int a1, .int a2, .int a3, .int a4] (zs b, I, J) (fV (zs b)) (rc a0 a1 a2 a3 a4 I J)) (l1 : Int32) (l2 : Int32) (l3 : Int32) (l4 : Int32) (l5 : Int32) (I : HI) (J : HJ) : CM mX12_goOn (dn + 1) 0 0 [.ref 81, .int l1, .int l2, .int l3, .int l4, .int l5] (zs b, I, J) (fV (zs b)) (F_X12_goOn_B rc l1 l2 l3 l4 l5 I J) := by
  refine S.of okX12_goOn pn_X12 (Nat.le_of_ble_eq_true rfl) ?_
  refine S.sub (lv' := [(0, .ref 81), (1, .int l1), (2, .int l2), (3, .int l3), (4, .int l4), (5, .int l5)]) [0, 1, 2, 3, 4, 5] rfl ?_
  unfold F_X12_goOn_B
  refine S.aload_n 0 0 rfl rfl ?_
  refine S.getR 1 rfl fo_X12_40 rfl rfl rfl ?_
  refine S.iload_n 2 2 rfl rfl ?_
  refine S.iald 3 rfl rfl ?_
  refine S.nmi (fun x5 => ?_)
  refine S.istore [(6, .int x5), (0, .ref 81), (1, .int l1), (2, .int l2), (3, .int l3), (4, .int l4), (5, .int l5)] 4 rfl (by decide) rfl ?_
  refine S.sub (lv' := [(0, .ref 81), (1, .int l1), (2, .int l2), (3, .int l3), (4, .int l4), (5, .int l5), (6, .int x5)]) [1, 2, 3, 4, 5, 6, 0] rfl ?_
  refine s_X12_goOn_L8 b rc dn hdn hrc _ _ _ _ _ bgf _ _ _
def F_X12_goOn : Nat → Int32 → Int32 → Int32 → Int32 → Int32 → HI → HJ → Option (Unit × HI × HJ)
  | 0, _, _, _, _, _, _, _ => none
  | n+1, l1, l2, l3, l4, l5, I, J => F_X12_goOn_B (F_X12_goOn n) l1 l2 l3 l4 l5 I J
theorem cm_X12_goOn (b : Bool) : ∀ (n : Nat) (l1 : Int32) (l2 : Int32) (l3 : Int32) (l4 : Int32) (l5 : Int32) (I : HI) (J : HJ), CM mX12_goOn (2 + 1 * n) 0 0 [.ref 81, .int l1, .int l2, .int l3, .int l4, .int l5] (zs b, I, J) (fV (zs b)) (F_X12_goOn n l1 l2 l3 l4 l5 I J) := by
  intro n
  induction n with
  | zero => intro l1 l2 l3 l4 l5 I J r hf; cases hf
  | succ n ih =>
    intro l1 l2 l3 l4 l5 I J
    have e : 2 + 1 * (n + 1) = 2 + 1 * n + 1 := by omega
    rw [e]
    exact cm_X12_goOn_B b (F_X12_goOn n) (2 + 1 * n) (by omega) (ih) l1 l2 l3 l4 l5 I J
def F_X12_shine_L2 (l1 : Int32) (l2 : Int32) (kx47 : HI → HJ → Option (Unit × HI × HJ)) : Nat → Int32 → HI → HJ → Option (Unit × HI × HJ)
  | 0, _, _, _ => none
  | K+1, l3, I, J =>
    if (I m_self f_Model_lamps) ≤ l3 then
      kx47 I J
    else
      bx l3 60 <|
      lb (uj J m_light (Int32.toNatClampNeg l3) (0 : Int64)) fun J5 =>
      lb (fun (I6 : HI) (J7 : HJ) =>
      F_X12_shine_L2 l1 l2 kx47 K (l3 + 1) I6 J7) fun j8 =>
      if (I m_self f_Model_isCounted) = 0 then
        j8 I J5
      else
        bx l3 60 <|
        lb (ui I m_through (Int32.toNatClampNeg l3) (0 : Int32)) fun I9 =>
        bx l3 60 <|
        lb (uj J5 m_mostOne (Int32.toNatClampNeg l3) (0 : Int64)) fun J10 =>
        j8 I9 J10
set_option maxRecDepth 100000 in
theorem s_X12_shine_L2 (b : Bool) (l1 : Int32) (l2 : Int32) (kx47 : HI → HJ → Option (Unit × HI × HJ)) (hkx47 : ∀ (I1 : HI) (J1 : HJ), S (fV (zs b)) mX12_shine (rmd 23 0 0) 0 0 (0, 0) 47 [(0, .ref 81), (1, .int l1), (2, .int l2)] [] (zs b, I1, J1) (kx47 I1 J1)) : ∀ (K : Nat) (l3 : Int32) (I : HI) (J : HJ), S (fV (zs b)) mX12_shine (rmd 23 0 0) 0 0 (0, 0) 2 [(0, .ref 81), (1, .int l1), (2, .int l2), (3, .int l3)] [] (zs b, I, J) (F_X12_shine_L2 l1 l2 kx47 K l3 I J) := by
  intro K
  induction K with
  | zero => intro l3 I J; exact S.none
  | succ K ih =>
    intro l3 I J
    rw [F_X12_shine_L2]
    refine S.iload_n 2 3 rfl rfl ?_
    refine S.aload_n 3 0 rfl rfl ?_
    refine S.getI 4 rfl fo_X12_169 rfl rfl ?_
    refine S.icmp_ge 47 5 rfl (by decide) (fun _ => ?_) (fun _ => ?_)
    · refine S.sub (lv' := [(0, .ref 81), (1, .int l1), (2, .int l2)]) [0, 1, 2] rfl ?_
      exact hkx47 _ _
    · refine S.aload_n 6 0 rfl rfl ?_
      refine S.getR 7 rfl fo_X12_49 rfl rfl rfl ?_
      refine S.iload_n 8 3 rfl rfl ?_
      refine S.lconst (0 : Int64) 9 rfl (by decide) ?_
      refine S.last 10 rfl rfl (fun J5 => ?_)
      refine S.aload_n 11 0 rfl rfl ?_
      refine S.getI 12 rfl fo_X12_301 rfl rfl ?_
      refine S.jn (fun j => ∀ (I6 : HI) (J7 : HJ), S (fV (zs b)) mX12_shine (rmd 23 0 0) 0 0 (0, 0) 41 [(0, .ref 81), (1, .int l1), (2, .int l2), (3, .int l3)] [] (zs b, I6, J7) (j I6 J7)) (fun I6 J7 => ?_) (fun j8 hj8 => ?_)
      · refine S.iinc (l3 + 1) [(3, .int (l3 + 1)), (0, .ref 81), (1, .int l1), (2, .int l2)] 25 3 rfl rfl rfl (by decide) rfl ?_
        refine S.goto 2 26 rfl (by decide) ?_
        refine S.sub (lv' := [(0, .ref 81), (1, .int l1), (2, .int l2), (3, .int (l3 + 1))]) [1, 2, 3, 0] rfl ?_
        exact ih _ _ _
      · refine S.if_ne 27 13 rfl (by decide) (fun _ => ?_) (fun _ => ?_)
        · refine S.aload_n 15 0 rfl rfl ?_
          refine S.getR 16 rfl fo_X12_52 rfl rfl rfl ?_
          refine S.iload_n 17 3 rfl rfl ?_
          refine S.iconst (0 : Int32) 18 rfl (by decide) ?_
          refine S.iast 19 rfl rfl (fun I9 => ?_)
          refine S.aload_n 20 0 rfl rfl ?_
          refine S.getR 21 rfl fo_X12_55 rfl rfl rfl ?_
          refine S.iload_n 22 3 rfl rfl ?_
          refine S.lconst (0 : Int64) 23 rfl (by decide) ?_
          refine S.last 24 rfl rfl (fun J10 => ?_)
          exact hj8 _ _
        · refine S.goto 41 14 rfl (by decide) ?_
          exact hj8 _ _
def F_X12_shine_L49 (l1 : Int32) (l2 : Int32) (I : HI) (kx77 : HJ → Option (Unit × HI × HJ)) : Nat → Int32 → HJ → Option (Unit × HI × HJ)
  | 0, _, _ => none
  | K+1, l3, J =>
    if (I m_self f_Model_wide) ≤ l3 then
      kx77 J
    else
      if (I m_self f_Model_isCounted) = 0 then
        kx77 J
      else
        bx l3 10 <|
        lb (uj J m_drawn (Int32.toNatClampNeg l3) (0 : Int64)) fun J13 =>
        F_X12_shine_L49 l1 l2 I kx77 K (l3 + 1) J13
set_option maxRecDepth 100000 in
theorem s_X12_shine_L49 (b : Bool) (l1 : Int32) (l2 : Int32) (I : HI) (kx77 : HJ → Option (Unit × HI × HJ)) (hkx77 : ∀ (J1 : HJ), S (fV (zs b)) mX12_shine (rmd 23 0 0) 0 0 (0, 0) 77 [(0, .ref 81), (1, .int l1), (2, .int l2)] [] (zs b, I, J1) (kx77 J1)) : ∀ (K : Nat) (l3 : Int32) (J : HJ), S (fV (zs b)) mX12_shine (rmd 23 0 0) 0 0 (0, 0) 49 [(0, .ref 81), (1, .int l1), (2, .int l2), (3, .int l3)] [] (zs b, I, J) (F_X12_shine_L49 l1 l2 I kx77 K l3 J) := by
  intro K
  induction K with
  | zero => intro l3 J; exact S.none
  | succ K ih =>
    intro l3 J
    rw [F_X12_shine_L49]
    refine S.iload_n 29 3 rfl rfl ?_
    refine S.aload_n 30 0 rfl rfl ?_
    refine S.getI 31 rfl fo_X12_9 rfl rfl ?_
    refine S.icmp_ge 77 32 rfl (by decide) (fun _ => ?_) (fun _ => ?_)
    · refine S.sub (lv' := [(0, .ref 81), (1, .int l1), (2, .int l2)]) [0, 1, 2] rfl ?_
      exact hkx77 _
    · refine S.aload_n 33 0 rfl rfl ?_
      refine S.getI 34 rfl fo_X12_301 rfl rfl ?_
      refine S.if_eq 77 35 rfl (by decide) (fun _ => ?_) (fun _ => ?_)
      · refine S.sub (lv' := [(0, .ref 81), (1, .int l1), (2, .int l2)]) [0, 1, 2] rfl ?_
        exact hkx77 _
      · refine S.aload_n 36 0 rfl rfl ?_
        refine S.getR 37 rfl fo_X12_58 rfl rfl rfl ?_
        refine S.iload_n 38 3 rfl rfl ?_
        refine S.lconst (0 : Int64) 39 rfl (by decide) ?_
        refine S.last 40 rfl rfl (fun J13 => ?_)
        refine S.iinc (l3 + 1) [(3, .int (l3 + 1)), (0, .ref 81), (1, .int l1), (2, .int l2)] 41 3 rfl rfl rfl (by decide) rfl ?_
        refine S.goto 49 42 rfl (by decide) ?_
        refine S.sub (lv' := [(0, .ref 81), (1, .int l1), (2, .int l2), (3, .int (l3 + 1))]) [1, 2, 3, 0] rfl ?_
        exact ih _ _
def F_X12_shine_L89  : Nat → Int32 → HI → HJ → Option (Unit × HI × HJ)
  | 0, _, _, _ => none
  | K+1, l3, I, J =>
    if (I m_self f_Model_wide) ≤ l3 then
      some ((), I, J)
    else
      cp (F_X12_has (Int32.toInt64 (I m_self f_Model_high)) l3) fun r18 =>
      lb (fun (I19 : HI) (J20 : HJ) =>
      F_X12_shine_L89 K (l3 + 1) I19 J20) fun j21 =>
      if r18 = 0 then
        j21 I J
      else
        cl (F_X12_goOn 20 l3 l3 (0 : Int32) (0 : Int32) (oshl (1 : Int32) l3) I J) fun _ I22 J23 =>
        j21 I22 J23
set_option maxRecDepth 100000 in
theorem s_X12_shine_L89 (b : Bool)  : ∀ (K : Nat) (l3 : Int32) (I : HI) (J : HJ), S (fV (zs b)) mX12_shine (rmd 23 0 0) 0 0 (0, 0) 89 [(0, .ref 81), (3, .int l3)] [] (zs b, I, J) (F_X12_shine_L89 K l3 I J) := by
  intro K
  induction K with
  | zero => intro l3 I J; exact S.none
  | succ K ih =>
    intro l3 I J
    rw [F_X12_shine_L89]
    refine S.iload_n 51 1 rfl rfl ?_
    refine S.aload_n 52 0 rfl rfl ?_
    refine S.getI 53 rfl fo_X12_9 rfl rfl ?_
    refine S.icmp_ge 126 54 rfl (by decide) (fun _ => ?_) (fun _ => ?_)
    · exact S.vret 72 rfl rfl (Nat.le_refl _) (Nat.le_refl _) rfl
    · refine S.aload_n 55 0 rfl rfl ?_
      refine S.getI 56 rfl fo_X12_288 rfl rfl ?_
      refine S.i2l 57 rfl ?_
      refine S.iload_n 58 1 rfl rfl ?_
      refine S.qSI (d := 1) (av := [.long (Int32.toInt64 (I m_self f_Model_high)), .int l3]) (rs := [.int l3, .long (Int32.toInt64 (I m_self f_Model_high))]) 59 rfl co_X12_294 rfl rfl ⟨⟨Nat.le_of_ble_eq_true rfl, Nat.le_of_ble_eq_true rfl⟩, ⟨Nat.le_of_ble_eq_true rfl, Nat.le_of_ble_eq_true rfl⟩, Nat.le_of_ble_eq_true rfl⟩ (cm_X12_has (zs b, I, J) (Int32.toInt64 (I m_self f_Model_high)) l3) (fun r18 => ?_)
      refine S.jn (fun j => ∀ (I19 : HI) (J20 : HJ), S (fV (zs b)) mX12_shine (rmd 23 0 0) 0 0 (0, 0) 120 [(0, .ref 81), (3, .int l3)] [] (zs b, I19, J20) (j I19 J20)) (fun I19 J20 => ?_) (fun j21 hj21 => ?_)
      · refine S.iinc (l3 + 1) [(3, .int (l3 + 1)), (0, .ref 81)] 70 1 rfl rfl rfl (by decide) rfl ?_
        refine S.goto 89 71 rfl (by decide) ?_
        refine S.sub (lv' := [(0, .ref 81), (3, .int (l3 + 1))]) [1, 0] rfl ?_
        exact ih _ _ _
      · refine S.if_eq 120 60 rfl (by decide) (fun _ => ?_) (fun _ => ?_)
        · exact hj21 _ _
        · refine S.aload_n 61 0 rfl rfl ?_
          refine S.iload_n 62 1 rfl rfl ?_
          refine S.iload_n 63 1 rfl rfl ?_
          refine S.iconst (0 : Int32) 64 rfl (by decide) ?_
          refine S.iconst (0 : Int32) 65 rfl (by decide) ?_
          refine S.iconst (1 : Int32) 66 rfl (by decide) ?_
          refine S.iload_n 67 1 rfl rfl ?_
          refine S.ishl 68 rfl ?_
          refine S.cVV (d := 22) (av := [.int l3, .int l3, .int (0 : Int32), .int (0 : Int32), .int (oshl (1 : Int32) l3)]) (rs := [.int (oshl (1 : Int32) l3), .int (0 : Int32), .int (0 : Int32), .int l3, .int l3]) (b := 81) 69 rfl co_X12_309 rfl rfl rfl rfl rfl ⟨⟨Nat.le_of_ble_eq_true rfl, Nat.le_of_ble_eq_true rfl⟩, ⟨Nat.le_of_ble_eq_true rfl, Nat.le_of_ble_eq_true rfl⟩, Nat.le_of_ble_eq_true rfl⟩ (cm_X12_goOn b 20 l3 l3 (0 : Int32) (0 : Int32) (oshl (1 : Int32) l3) I J) (fun _ I22 J23 => ?_)
          exact hj21 _ _
def F_X12_shine (l1 : Int32) (l2 : Int32) (I : HI) (J : HJ) : Option (Unit × HI × HJ) :=
  F_X12_shine_L2 l1 l2 (fun (I11 : HI) (J12 : HJ) =>
  F_X12_shine_L49 l1 l2 I11 (fun (J14 : HJ) =>
  cl (F_X12_begin l1 l2 I11 J14) fun r15 I16 J17 =>
  if r15 = 0 then
    some ((), I16, J17)
  else
    F_X12_shine_L89 bgf (0 : Int32) I16 J17) bgf (0 : Int32) J12) bgf (0 : Int32) I J
set_option maxRecDepth 100000 in
theorem cm_X12_shine (b : Bool) (l1 : Int32) (l2 : Int32) (I : HI) (J : HJ) : CM mX12_shine 23 0 0 [.ref 81, .int l1, .int l2] (zs b, I, J) (fV (zs b)) (F_X12_shine l1 l2 I J) := by
  refine S.of okX12_shine pn_X12 (Nat.le_of_ble_eq_true rfl) ?_
  refine S.sub (lv' := [(0, .ref 81), (1, .int l1), (2, .int l2)]) [0, 1, 2] rfl ?_
  unfold F_X12_shine
  refine S.iconst (0 : Int32) 0 rfl (by decide) ?_
  refine S.istore_n [(3, .int (0 : Int32)), (0, .ref 81), (1, .int l1), (2, .int l2)] 1 rfl (by decide) rfl ?_
  refine S.sub (lv' := [(0, .ref 81), (1, .int l1), (2, .int l2), (3, .int (0 : Int32))]) [1, 2, 3, 0] rfl ?_
  refine s_X12_shine_L2 b _ _ _ (fun I11 J12 => ?_) bgf _ _ _
  refine S.iconst (0 : Int32) 27 rfl (by decide) ?_
  refine S.istore_n [(3, .int (0 : Int32)), (0, .ref 81), (1, .int l1), (2, .int l2)] 28 rfl (by decide) rfl ?_
  refine S.sub (lv' := [(0, .ref 81), (1, .int l1), (2, .int l2), (3, .int (0 : Int32))]) [1, 2, 3, 0] rfl ?_
  refine s_X12_shine_L49 b _ _ _ _ (fun J14 => ?_) bgf _ _
  refine S.aload_n 43 0 rfl rfl ?_
  refine S.iload_n 44 1 rfl rfl ?_
  refine S.iload_n 45 2 rfl rfl ?_
  refine S.cVI (d := 2) (av := [.int l1, .int l2]) (rs := [.int l2, .int l1]) (b := 81) 46 rfl co_X12_305 rfl rfl rfl rfl rfl ⟨⟨Nat.le_of_ble_eq_true rfl, Nat.le_of_ble_eq_true rfl⟩, ⟨Nat.le_of_ble_eq_true rfl, Nat.le_of_ble_eq_true rfl⟩, Nat.le_of_ble_eq_true rfl⟩ (cm_X12_begin b l1 l2 I11 J14) (fun r15 I16 J17 => ?_)
  refine S.if_ne 87 47 rfl (by decide) (fun _ => ?_) (fun _ => ?_)
  · refine S.iconst (0 : Int32) 49 rfl (by decide) ?_
    refine S.istore_n [(3, .int (0 : Int32)), (0, .ref 81), (1, .int l1), (2, .int l2)] 50 rfl (by decide) rfl ?_
    refine S.sub (lv' := [(0, .ref 81), (3, .int (0 : Int32))]) [1, 0] rfl ?_
    refine s_X12_shine_L89 b bgf _ _ _
  · exact S.vret 48 rfl rfl (Nat.le_refl _) (Nat.le_refl _) rfl
def F_X12_isBright (l1 : Int32) (I : HI) (J : HJ) : Option Int32 :=
  bx l1 60 <|
  if (lg_cmp (J m_light (Int32.toNatClampNeg l1)) (0 : Int64)) ≤ 0 then
    some (0 : Int32)
  else
    bx l1 60 <|
    bx (2 : Int32) 3 <|
    if (lg_cmp ((100 : Int64) * (J m_light (Int32.toNatClampNeg l1))) ((Int32.toInt64 (I m_sets (Int32.toNatClampNeg (2 : Int32)))) * (27720 : Int64))) < 0 then
      some (0 : Int32)
    else
      some (1 : Int32)
set_option maxRecDepth 100000 in
theorem cm_X12_isBright (b : Bool) (l1 : Int32) (I : HI) (J : HJ) : CM mX12_isBright 1 0 0 [.ref 81, .int l1] (zs b, I, J) (pI (zs b, I, J)) (F_X12_isBright l1 I J) := by
  refine S.of okX12_isBright pn_X12 (Nat.le_of_ble_eq_true rfl) ?_
  refine S.sub (lv' := [(0, .ref 81), (1, .int l1)]) [0, 1] rfl ?_
  unfold F_X12_isBright
  refine S.aload_n 0 0 rfl rfl ?_
  refine S.getR 1 rfl fo_X12_49 rfl rfl rfl ?_
  refine S.iload_n 2 1 rfl rfl ?_
  refine S.lald 3 rfl rfl ?_
  refine S.lconst (0 : Int64) 4 rfl (by decide) ?_
  refine S.lcmp 5 rfl ?_
  refine S.if_le 40 6 rfl (by decide) (fun _ => ?_) (fun _ => ?_)
  · refine S.iconst (0 : Int32) 24 rfl (by decide) ?_
    exact S.iret 25 rfl rfl rfl (Nat.le_refl _) (Nat.le_refl _) rfl
  · refine S.ldc2 (100 : Int64) 7 rfl ko_X12_335 ?_
    refine S.aload_n 8 0 rfl rfl ?_
    refine S.getR 9 rfl fo_X12_49 rfl rfl rfl ?_
    refine S.iload_n 10 1 rfl rfl ?_
    refine S.lald 11 rfl rfl ?_
    refine S.lmul 12 rfl ?_
    refine S.aload_n 13 0 rfl rfl ?_
    refine S.getR 14 rfl fo_X12_26 rfl rfl rfl ?_
    refine S.iconst (2 : Int32) 15 rfl (by decide) ?_
    refine S.iald 16 rfl rfl ?_
    refine S.i2l 17 rfl ?_
    refine S.ldc2 (27720 : Int64) 18 rfl ko_X12_317 ?_
    refine S.lmul 19 rfl ?_
    refine S.lcmp 20 rfl ?_
    refine S.if_lt 40 21 rfl (by decide) (fun _ => ?_) (fun _ => ?_)
    · refine S.iconst (0 : Int32) 24 rfl (by decide) ?_
      exact S.iret 25 rfl rfl rfl (Nat.le_refl _) (Nat.le_refl _) rfl
    · refine S.iconst (1 : Int32) 22 rfl (by decide) ?_
      refine S.goto 41 23 rfl (by decide) ?_
      exact S.iret 25 rfl rfl rfl (Nat.le_refl _) (Nat.le_refl _) rfl
def F_X12_glowing_L11 (I : HI) (J : HJ) : Nat → Int64 → Int32 → Option (Int64 × HI × HJ)
  | 0, _, _ => none
  | K+1, l3, l5 =>
    if (I m_self f_Model_lamps) ≤ l5 then
      some (l3, I, J)
    else
      cp (F_X12_isBright l5 I J) fun r4 =>
      lb (fun (y5 : Int64) (y6 : Int64) =>
      lb ((y5 ||| y6)) fun x8 =>
      F_X12_glowing_L11 I J K x8 (l5 + 1)) fun j7 =>
      if r4 = 0 then
        j7 l3 (0 : Int64)
      else
        j7 l3 (olshl (1 : Int64) l5)
set_option maxRecDepth 100000 in
theorem s_X12_glowing_L11 (b : Bool) (I : HI) (J : HJ) : ∀ (K : Nat) (l3 : Int64) (l5 : Int32), S (fL (zs b)) mX12_glowing (rmd 24 0 0) 0 0 (0, 0) 11 [(0, .ref 81), (3, .long l3), (5, .int l5)] [] (zs b, I, J) (F_X12_glowing_L11 I J K l3 l5) := by
  intro K
  induction K with
  | zero => intro l3 l5; exact S.none
  | succ K ih =>
    intro l3 l5
    rw [F_X12_glowing_L11]
    refine S.iload 8 2 rfl rfl ?_
    refine S.aload_n 9 0 rfl rfl ?_
    refine S.getI 10 rfl fo_X12_169 rfl rfl ?_
    refine S.icmp_ge 46 11 rfl (by decide) (fun _ => ?_) (fun _ => ?_)
    · refine S.lload_n 26 1 rfl rfl ?_
      exact S.lret 27 rfl rfl (Nat.le_refl _) (Nat.le_refl _) rfl
    · refine S.lload_n 12 1 rfl rfl ?_
      refine S.aload_n 13 0 rfl rfl ?_
      refine S.iload 14 2 rfl rfl ?_
      refine S.qVI (d := 1) (av := [.int l5]) (rs := [.int l5]) (b := 81) 15 rfl co_X12_340 rfl rfl rfl rfl rfl ⟨⟨Nat.le_of_ble_eq_true rfl, Nat.le_of_ble_eq_true rfl⟩, ⟨Nat.le_of_ble_eq_true rfl, Nat.le_of_ble_eq_true rfl⟩, Nat.le_of_ble_eq_true rfl⟩ (cm_X12_isBright b l5 I J) (fun r4 => ?_)
      refine S.jn (fun j => ∀ (y5 : Int64) (y6 : Int64), S (fL (zs b)) mX12_glowing (rmd 24 0 0) 0 0 (0, 0) 38 [(0, .ref 81), (5, .int l5)] [.long y6, .long y5] (zs b, I, J) (j y5 y6)) (fun y5 y6 => ?_) (fun j7 hj7 => ?_)
      · refine S.lor 22 rfl ?_
        refine S.nml (fun x8 => ?_)
        refine S.lstore_n [(3, .long x8), (0, .ref 81), (5, .int l5)] 23 rfl (by decide) rfl ?_
        refine S.iinc (l5 + 1) [(5, .int (l5 + 1)), (3, .long x8), (0, .ref 81)] 24 2 rfl rfl rfl (by decide) rfl ?_
        refine S.goto 11 25 rfl (by decide) ?_
        refine S.sub (lv' := [(0, .ref 81), (3, .long x8), (5, .int (l5 + 1))]) [2, 1, 0] rfl ?_
        exact ih _ _
      · refine S.if_eq 37 16 rfl (by decide) (fun _ => ?_) (fun _ => ?_)
        · refine S.lconst (0 : Int64) 21 rfl (by decide) ?_
          refine S.sub (lv' := [(0, .ref 81), (5, .int l5)]) [0, 2] rfl ?_
          exact hj7 _ _
        · refine S.lconst (1 : Int64) 17 rfl (by decide) ?_
          refine S.iload 18 2 rfl rfl ?_
          refine S.lshl 19 rfl ?_
          refine S.goto 38 20 rfl (by decide) ?_
          refine S.sub (lv' := [(0, .ref 81), (5, .int l5)]) [0, 2] rfl ?_
          exact hj7 _ _
def F_X12_glowing (l1 : Int32) (l2 : Int32) (I : HI) (J : HJ) : Option (Int64 × HI × HJ) :=
  cl (F_X12_shine l1 l2 I J) fun _ I2 J3 =>
  F_X12_glowing_L11 I2 J3 bgf (0 : Int64) (0 : Int32)
set_option maxRecDepth 100000 in
theorem cm_X12_glowing (b : Bool) (l1 : Int32) (l2 : Int32) (I : HI) (J : HJ) : CM mX12_glowing 24 0 0 [.ref 81, .int l1, .int l2] (zs b, I, J) (fL (zs b)) (F_X12_glowing l1 l2 I J) := by
  refine S.of okX12_glowing pn_X12 (Nat.le_of_ble_eq_true rfl) ?_
  refine S.sub (lv' := [(0, .ref 81), (1, .int l1), (2, .int l2)]) [0, 1, 2] rfl ?_
  unfold F_X12_glowing
  refine S.aload_n 0 0 rfl rfl ?_
  refine S.iload_n 1 1 rfl rfl ?_
  refine S.iload_n 2 2 rfl rfl ?_
  refine S.cVV (d := 23) (av := [.int l1, .int l2]) (rs := [.int l2, .int l1]) (b := 81) 3 rfl co_X12_337 rfl rfl rfl rfl rfl ⟨⟨Nat.le_of_ble_eq_true rfl, Nat.le_of_ble_eq_true rfl⟩, ⟨Nat.le_of_ble_eq_true rfl, Nat.le_of_ble_eq_true rfl⟩, Nat.le_of_ble_eq_true rfl⟩ (cm_X12_shine b l1 l2 I J) (fun _ I2 J3 => ?_)
  refine S.lconst (0 : Int64) 4 rfl (by decide) ?_
  refine S.lstore_n [(3, .long (0 : Int64)), (0, .ref 81), (1, .int l1), (2, .int l2)] 5 rfl (by decide) rfl ?_
  refine S.iconst (0 : Int32) 6 rfl (by decide) ?_
  refine S.istore [(5, .int (0 : Int32)), (3, .long (0 : Int64)), (0, .ref 81), (1, .int l1), (2, .int l2)] 7 rfl (by decide) rfl ?_
  refine S.sub (lv' := [(0, .ref 81), (3, .long (0 : Int64)), (5, .int (0 : Int32))]) [2, 1, 0] rfl ?_
  refine s_X12_glowing_L11 b _ _ bgf _ _
def F_X12_glowingWith (l1 : Int32) (l2 : Int32) (l3 : Int32) (I : HI) (J : HJ) : Option (Int64 × HI × HJ) :=
  cl (F_X12_lay l1 I J) fun _ I1 J2 =>
  cl (F_X12_glowing l2 l3 I1 J2) fun r3 I4 J5 =>
  some (r3, I4, J5)
set_option maxRecDepth 100000 in
theorem cm_X12_glowingWith (b : Bool) (l1 : Int32) (l2 : Int32) (l3 : Int32) (I : HI) (J : HJ) : CM mX12_glowingWith 25 0 0 [.ref 81, .int l1, .int l2, .int l3] (zs b, I, J) (fL (zs b)) (F_X12_glowingWith l1 l2 l3 I J) := by
  refine S.of okX12_glowingWith pn_X12 (Nat.le_of_ble_eq_true rfl) ?_
  refine S.sub (lv' := [(0, .ref 81), (1, .int l1), (2, .int l2), (3, .int l3)]) [0, 1, 2, 3] rfl ?_
  unfold F_X12_glowingWith
  refine S.aload_n 0 0 rfl rfl ?_
  refine S.iload_n 1 1 rfl rfl ?_
  refine S.cVV (d := 4) (av := [.int l1]) (rs := [.int l1]) (b := 81) 2 rfl co_X12_343 rfl rfl rfl rfl rfl ⟨⟨Nat.le_of_ble_eq_true rfl, Nat.le_of_ble_eq_true rfl⟩, ⟨Nat.le_of_ble_eq_true rfl, Nat.le_of_ble_eq_true rfl⟩, Nat.le_of_ble_eq_true rfl⟩ (cm_X12_lay b l1 I J) (fun _ I1 J2 => ?_)
  refine S.aload_n 3 0 rfl rfl ?_
  refine S.iload_n 4 2 rfl rfl ?_
  refine S.iload_n 5 3 rfl rfl ?_
  refine S.cVL (d := 24) (av := [.int l2, .int l3]) (rs := [.int l3, .int l2]) (b := 81) 6 rfl co_X12_346 rfl rfl rfl rfl rfl ⟨⟨Nat.le_of_ble_eq_true rfl, Nat.le_of_ble_eq_true rfl⟩, ⟨Nat.le_of_ble_eq_true rfl, Nat.le_of_ble_eq_true rfl⟩, Nat.le_of_ble_eq_true rfl⟩ (cm_X12_glowing b l2 l3 I1 J2) (fun r3 I4 J5 => ?_)
  exact S.lret 7 rfl rfl (Nat.le_refl _) (Nat.le_refl _) rfl
def F_X12_put (l1 : Int32) (l2 : Int32) (I : HI) (J : HJ) : Option (Int32 × HI × HJ) :=
  lb (ui I m_self f_Model_thrown (0 : Int32)) fun I4 =>
  cp (F_X12_isSetting l1 l2 I4 J) fun r5 =>
  if r5 = 0 then
    some ((-1 : Int32), I4, J)
  else
    lb (ui I4 m_self f_Model_shownHigh l1) fun I6 =>
    lb (ui I6 m_self f_Model_shownLow l2) fun I7 =>
    cl (F_X12_glowingWith (0 : Int32) l1 l2 I7 J) fun r8 I9 J10 =>
    cp (F_J13_bitCount_95d88 r8) fun r11 =>
    some (r11, I9, J10)
set_option maxRecDepth 100000 in
theorem cm_X12_put (b : Bool) (l1 : Int32) (l2 : Int32) (I : HI) (J : HJ) : CM mX12_put 26 0 0 [.ref 81, .int l1, .int l2] (zs b, I, J) (fI (zs b)) (F_X12_put l1 l2 I J) := by
  refine S.of okX12_put pn_X12 (Nat.le_of_ble_eq_true rfl) ?_
  refine S.sub (lv' := [(0, .ref 81), (1, .int l1), (2, .int l2)]) [0, 1, 2] rfl ?_
  unfold F_X12_put
  refine S.aload_n 0 0 rfl rfl ?_
  refine S.iconst (0 : Int32) 1 rfl (by decide) ?_
  refine S.putI 2 rfl fo_X12_159 rfl rfl rfl rfl (fun _ hq => by cases hq; exact Or.inl rfl) (fun I4 => ?_)
  refine S.aload_n 3 0 rfl rfl ?_
  refine S.iload_n 4 1 rfl rfl ?_
  refine S.iload_n 5 2 rfl rfl ?_
  refine S.qVI (d := 2) (av := [.int l1, .int l2]) (rs := [.int l2, .int l1]) (b := 81) 6 rfl co_X12_350 rfl rfl rfl rfl rfl ⟨⟨Nat.le_of_ble_eq_true rfl, Nat.le_of_ble_eq_true rfl⟩, ⟨Nat.le_of_ble_eq_true rfl, Nat.le_of_ble_eq_true rfl⟩, Nat.le_of_ble_eq_true rfl⟩ (cm_X12_isSetting b l1 l2 I4 J) (fun r5 => ?_)
  refine S.if_ne 16 7 rfl (by decide) (fun _ => ?_) (fun _ => ?_)
  · refine S.aload_n 10 0 rfl rfl ?_
    refine S.iload_n 11 1 rfl rfl ?_
    refine S.putI 12 rfl fo_X12_211 rfl rfl rfl rfl (fun _ hq => by cases hq; exact Or.inl rfl) (fun I6 => ?_)
    refine S.aload_n 13 0 rfl rfl ?_
    refine S.iload_n 14 2 rfl rfl ?_
    refine S.putI 15 rfl fo_X12_214 rfl rfl rfl rfl (fun _ hq => by cases hq; exact Or.inl rfl) (fun I7 => ?_)
    refine S.aload_n 16 0 rfl rfl ?_
    refine S.iconst (0 : Int32) 17 rfl (by decide) ?_
    refine S.iload_n 18 1 rfl rfl ?_
    refine S.iload_n 19 2 rfl rfl ?_
    refine S.cVL (d := 25) (av := [.int (0 : Int32), .int l1, .int l2]) (rs := [.int l2, .int l1, .int (0 : Int32)]) (b := 81) 20 rfl co_X12_353 rfl rfl rfl rfl rfl ⟨⟨Nat.le_of_ble_eq_true rfl, Nat.le_of_ble_eq_true rfl⟩, ⟨Nat.le_of_ble_eq_true rfl, Nat.le_of_ble_eq_true rfl⟩, Nat.le_of_ble_eq_true rfl⟩ (cm_X12_glowingWith b (0 : Int32) l1 l2 I7 J) (fun r8 I9 J10 => ?_)
    refine S.qSI (d := 1) (av := [.long r8]) (rs := [.long r8]) 21 rfl co_X12_357 rfl rfl ⟨⟨Nat.le_of_ble_eq_true rfl, Nat.le_of_ble_eq_true rfl⟩, ⟨Nat.le_of_ble_eq_true rfl, Nat.le_of_ble_eq_true rfl⟩, Nat.le_of_ble_eq_true rfl⟩ (cm_J13_bitCount_95d88 (zs b, I9, J10) r8) (fun r11 => ?_)
    exact S.iret 22 rfl rfl rfl (Nat.le_refl _) (Nat.le_refl _) rfl
  · refine S.iconst (-1 : Int32) 8 rfl (by decide) ?_
    exact S.iret 9 rfl rfl rfl (Nat.le_refl _) (Nat.le_refl _) rfl
def F_X12_glows  (I : HI) (J : HJ) : Option (Int64 × HI × HJ) :=
  lb (ui I m_self f_Model_thrown (0 : Int32)) fun I2 =>
  cl (F_X12_glowingWith (0 : Int32) (I2 m_self f_Model_shownHigh) (I2 m_self f_Model_shownLow) I2 J) fun r3 I4 J5 =>
  some (r3, I4, J5)
set_option maxRecDepth 100000 in
theorem cm_X12_glows (b : Bool)  (I : HI) (J : HJ) : CM mX12_glows 26 0 0 [.ref 81] (zs b, I, J) (fL (zs b)) (F_X12_glows  I J) := by
  refine S.of okX12_glows pn_X12 (Nat.le_of_ble_eq_true rfl) ?_
  refine S.sub (lv' := [(0, .ref 81)]) [0] rfl ?_
  unfold F_X12_glows
  refine S.aload_n 0 0 rfl rfl ?_
  refine S.iconst (0 : Int32) 1 rfl (by decide) ?_
  refine S.putI 2 rfl fo_X12_159 rfl rfl rfl rfl (fun _ hq => by cases hq; exact Or.inl rfl) (fun I2 => ?_)
  refine S.aload_n 3 0 rfl rfl ?_
  refine S.iconst (0 : Int32) 4 rfl (by decide) ?_
  refine S.aload_n 5 0 rfl rfl ?_
  refine S.getI 6 rfl fo_X12_211 rfl rfl ?_
  refine S.aload_n 7 0 rfl rfl ?_
  refine S.getI 8 rfl fo_X12_214 rfl rfl ?_
  refine S.cVL (d := 25) (av := [.int (0 : Int32), .int (I2 m_self f_Model_shownHigh), .int (I2 m_self f_Model_shownLow)]) (rs := [.int (I2 m_self f_Model_shownLow), .int (I2 m_self f_Model_shownHigh), .int (0 : Int32)]) (b := 81) 9 rfl co_X12_353 rfl rfl rfl rfl rfl ⟨⟨Nat.le_of_ble_eq_true rfl, Nat.le_of_ble_eq_true rfl⟩, ⟨Nat.le_of_ble_eq_true rfl, Nat.le_of_ble_eq_true rfl⟩, Nat.le_of_ble_eq_true rfl⟩ (cm_X12_glowingWith b (0 : Int32) (I2 m_self f_Model_shownHigh) (I2 m_self f_Model_shownLow) I2 J) (fun r3 I4 J5 => ?_)
  exact S.lret 10 rfl rfl (Nat.le_refl _) (Nat.le_refl _) rfl
def F_X12_askedFor_L5 (l1 : Int32) (l2 : Int32) (I : HI) (J : HJ) : Nat → Int64 → Int32 → Option Int64
  | 0, _, _ => none
  | K+1, l3, l5 =>
    if (I m_self f_Model_lamps) ≤ l5 then
      some l3
    else
      bx l5 60 <|
      cp (F_X12_has (Int32.toInt64 l1) (I m_lampFrom (Int32.toNatClampNeg l5))) fun r2 =>
      lb (fun (y3 : Int64) (y4 : Int64) =>
      lb ((y3 ||| y4)) fun x6 =>
      F_X12_askedFor_L5 l1 l2 I J K x6 (l5 + 1)) fun j5 =>
      lb (fun (y7 : Int64) =>
      j5 y7 (0 : Int64)) fun j8 =>
      if r2 = 0 then
        j8 l3
      else
        bx l5 60 <|
        cp (F_X12_has (Int32.toInt64 l2) (I m_lampTo (Int32.toNatClampNeg l5))) fun r9 =>
        if r9 = 0 then
          j8 l3
        else
          j5 l3 (olshl (1 : Int64) l5)
set_option maxRecDepth 100000 in
theorem s_X12_askedFor_L5 (b : Bool) (l1 : Int32) (l2 : Int32) (I : HI) (J : HJ) : ∀ (K : Nat) (l3 : Int64) (l5 : Int32), S (pL (zs b, I, J)) mX12_askedFor (rmd 2 0 0) 0 0 (0, 0) 5 [(0, .ref 81), (1, .int l1), (2, .int l2), (3, .long l3), (5, .int l5)] [] (zs b, I, J) (F_X12_askedFor_L5 l1 l2 I J K l3 l5) := by
  intro K
  induction K with
  | zero => intro l3 l5; exact S.none
  | succ K ih =>
    intro l3 l5
    rw [F_X12_askedFor_L5]
    refine S.iload 4 4 rfl rfl ?_
    refine S.aload_n 5 0 rfl rfl ?_
    refine S.getI 6 rfl fo_X12_169 rfl rfl ?_
    refine S.icmp_ge 61 7 rfl (by decide) (fun _ => ?_) (fun _ => ?_)
    · refine S.lload_n 34 3 rfl rfl ?_
      exact S.lret 35 rfl rfl (Nat.le_refl _) (Nat.le_refl _) rfl
    · refine S.lload_n 8 3 rfl rfl ?_
      refine S.iload_n 9 1 rfl rfl ?_
      refine S.i2l 10 rfl ?_
      refine S.aload_n 11 0 rfl rfl ?_
      refine S.getR 12 rfl fo_X12_13 rfl rfl rfl ?_
      refine S.iload 13 4 rfl rfl ?_
      refine S.iald 14 rfl rfl ?_
      refine S.qSI (d := 1) (av := [.long (Int32.toInt64 l1), .int (I m_lampFrom (Int32.toNatClampNeg l5))]) (rs := [.int (I m_lampFrom (Int32.toNatClampNeg l5)), .long (Int32.toInt64 l1)]) 15 rfl co_X12_294 rfl rfl ⟨⟨Nat.le_of_ble_eq_true rfl, Nat.le_of_ble_eq_true rfl⟩, ⟨Nat.le_of_ble_eq_true rfl, Nat.le_of_ble_eq_true rfl⟩, Nat.le_of_ble_eq_true rfl⟩ (cm_X12_has (zs b, I, J) (Int32.toInt64 l1) (I m_lampFrom (Int32.toNatClampNeg l5))) (fun r2 => ?_)
      refine S.jn (fun j => ∀ (y3 : Int64) (y4 : Int64), S (pL (zs b, I, J)) mX12_askedFor (rmd 2 0 0) 0 0 (0, 0) 53 [(0, .ref 81), (1, .int l1), (2, .int l2), (5, .int l5)] [.long y4, .long y3] (zs b, I, J) (j y3 y4)) (fun y3 y4 => ?_) (fun j5 hj5 => ?_)
      · refine S.lor 30 rfl ?_
        refine S.nml (fun x6 => ?_)
        refine S.lstore_n [(3, .long x6), (0, .ref 81), (1, .int l1), (2, .int l2), (5, .int l5)] 31 rfl (by decide) rfl ?_
        refine S.iinc (l5 + 1) [(5, .int (l5 + 1)), (3, .long x6), (0, .ref 81), (1, .int l1), (2, .int l2)] 32 4 rfl rfl rfl (by decide) rfl ?_
        refine S.goto 5 33 rfl (by decide) ?_
        refine S.sub (lv' := [(0, .ref 81), (1, .int l1), (2, .int l2), (3, .long x6), (5, .int (l5 + 1))]) [2, 3, 4, 1, 0] rfl ?_
        exact ih _ _
      · refine S.jn (fun j => ∀ (y7 : Int64), S (pL (zs b, I, J)) mX12_askedFor (rmd 2 0 0) 0 0 (0, 0) 52 [(0, .ref 81), (1, .int l1), (2, .int l2), (5, .int l5)] [.long y7] (zs b, I, J) (j y7)) (fun y7 => ?_) (fun j8 hj8 => ?_)
        · refine S.lconst (0 : Int64) 29 rfl (by decide) ?_
          exact hj5 _ _
        · refine S.if_eq 52 16 rfl (by decide) (fun _ => ?_) (fun _ => ?_)
          · refine S.sub (lv' := [(0, .ref 81), (1, .int l1), (2, .int l2), (5, .int l5)]) [0, 1, 2, 4] rfl ?_
            exact hj8 _
          · refine S.iload_n 17 2 rfl rfl ?_
            refine S.i2l 18 rfl ?_
            refine S.aload_n 19 0 rfl rfl ?_
            refine S.getR 20 rfl fo_X12_17 rfl rfl rfl ?_
            refine S.iload 21 4 rfl rfl ?_
            refine S.iald 22 rfl rfl ?_
            refine S.qSI (d := 1) (av := [.long (Int32.toInt64 l2), .int (I m_lampTo (Int32.toNatClampNeg l5))]) (rs := [.int (I m_lampTo (Int32.toNatClampNeg l5)), .long (Int32.toInt64 l2)]) 23 rfl co_X12_294 rfl rfl ⟨⟨Nat.le_of_ble_eq_true rfl, Nat.le_of_ble_eq_true rfl⟩, ⟨Nat.le_of_ble_eq_true rfl, Nat.le_of_ble_eq_true rfl⟩, Nat.le_of_ble_eq_true rfl⟩ (cm_X12_has (zs b, I, J) (Int32.toInt64 l2) (I m_lampTo (Int32.toNatClampNeg l5))) (fun r9 => ?_)
            refine S.if_eq 52 24 rfl (by decide) (fun _ => ?_) (fun _ => ?_)
            · refine S.sub (lv' := [(0, .ref 81), (1, .int l1), (2, .int l2), (5, .int l5)]) [0, 1, 2, 4] rfl ?_
              exact hj8 _
            · refine S.lconst (1 : Int64) 25 rfl (by decide) ?_
              refine S.iload 26 4 rfl rfl ?_
              refine S.lshl 27 rfl ?_
              refine S.goto 53 28 rfl (by decide) ?_
              refine S.sub (lv' := [(0, .ref 81), (1, .int l1), (2, .int l2), (5, .int l5)]) [0, 1, 2, 4] rfl ?_
              exact hj5 _ _
def F_X12_askedFor (l1 : Int32) (l2 : Int32) (I : HI) (J : HJ) : Option Int64 :=
  F_X12_askedFor_L5 l1 l2 I J bgf (0 : Int64) (0 : Int32)
set_option maxRecDepth 100000 in
theorem cm_X12_askedFor (b : Bool) (l1 : Int32) (l2 : Int32) (I : HI) (J : HJ) : CM mX12_askedFor 2 0 0 [.ref 81, .int l1, .int l2] (zs b, I, J) (pL (zs b, I, J)) (F_X12_askedFor l1 l2 I J) := by
  refine S.of okX12_askedFor pn_X12 (Nat.le_of_ble_eq_true rfl) ?_
  refine S.sub (lv' := [(0, .ref 81), (1, .int l1), (2, .int l2)]) [0, 1, 2] rfl ?_
  unfold F_X12_askedFor
  refine S.lconst (0 : Int64) 0 rfl (by decide) ?_
  refine S.lstore_n [(3, .long (0 : Int64)), (0, .ref 81), (1, .int l1), (2, .int l2)] 1 rfl (by decide) rfl ?_
  refine S.iconst (0 : Int32) 2 rfl (by decide) ?_
  refine S.istore [(5, .int (0 : Int32)), (3, .long (0 : Int64)), (0, .ref 81), (1, .int l1), (2, .int l2)] 3 rfl (by decide) rfl ?_
  refine S.sub (lv' := [(0, .ref 81), (1, .int l1), (2, .int l2), (3, .long (0 : Int64)), (5, .int (0 : Int32))]) [2, 3, 4, 1, 0] rfl ?_
  refine s_X12_askedFor_L5 b _ _ _ _ bgf _ _
def F_X12_ghosts  (I : HI) (J : HJ) : Option (Int64 × HI × HJ) :=
  lb (ui I m_self f_Model_thrown (0 : Int32)) fun I2 =>
  cl (F_X12_glowingWith (0 : Int32) (I2 m_self f_Model_shownHigh) (I2 m_self f_Model_shownLow) I2 J) fun r3 I4 J5 =>
  cp (F_X12_askedFor (I4 m_self f_Model_shownHigh) (I4 m_self f_Model_shownLow) I4 J5) fun r6 =>
  some ((r3 &&& (r6 ^^^ (-1 : Int64))), I4, J5)
set_option maxRecDepth 100000 in
theorem cm_X12_ghosts (b : Bool)  (I : HI) (J : HJ) : CM mX12_ghosts 26 0 0 [.ref 81] (zs b, I, J) (fL (zs b)) (F_X12_ghosts  I J) := by
  refine S.of okX12_ghosts pn_X12 (Nat.le_of_ble_eq_true rfl) ?_
  refine S.sub (lv' := [(0, .ref 81)]) [0] rfl ?_
  unfold F_X12_ghosts
  refine S.aload_n 0 0 rfl rfl ?_
  refine S.iconst (0 : Int32) 1 rfl (by decide) ?_
  refine S.putI 2 rfl fo_X12_159 rfl rfl rfl rfl (fun _ hq => by cases hq; exact Or.inl rfl) (fun I2 => ?_)
  refine S.aload_n 3 0 rfl rfl ?_
  refine S.iconst (0 : Int32) 4 rfl (by decide) ?_
  refine S.aload_n 5 0 rfl rfl ?_
  refine S.getI 6 rfl fo_X12_211 rfl rfl ?_
  refine S.aload_n 7 0 rfl rfl ?_
  refine S.getI 8 rfl fo_X12_214 rfl rfl ?_
  refine S.cVL (d := 25) (av := [.int (0 : Int32), .int (I2 m_self f_Model_shownHigh), .int (I2 m_self f_Model_shownLow)]) (rs := [.int (I2 m_self f_Model_shownLow), .int (I2 m_self f_Model_shownHigh), .int (0 : Int32)]) (b := 81) 9 rfl co_X12_353 rfl rfl rfl rfl rfl ⟨⟨Nat.le_of_ble_eq_true rfl, Nat.le_of_ble_eq_true rfl⟩, ⟨Nat.le_of_ble_eq_true rfl, Nat.le_of_ble_eq_true rfl⟩, Nat.le_of_ble_eq_true rfl⟩ (cm_X12_glowingWith b (0 : Int32) (I2 m_self f_Model_shownHigh) (I2 m_self f_Model_shownLow) I2 J) (fun r3 I4 J5 => ?_)
  refine S.aload_n 10 0 rfl rfl ?_
  refine S.aload_n 11 0 rfl rfl ?_
  refine S.getI 12 rfl fo_X12_211 rfl rfl ?_
  refine S.aload_n 13 0 rfl rfl ?_
  refine S.getI 14 rfl fo_X12_214 rfl rfl ?_
  refine S.qVL (d := 2) (av := [.int (I4 m_self f_Model_shownHigh), .int (I4 m_self f_Model_shownLow)]) (rs := [.int (I4 m_self f_Model_shownLow), .int (I4 m_self f_Model_shownHigh)]) (b := 81) 15 rfl co_X12_363 rfl rfl rfl rfl rfl ⟨⟨Nat.le_of_ble_eq_true rfl, Nat.le_of_ble_eq_true rfl⟩, ⟨Nat.le_of_ble_eq_true rfl, Nat.le_of_ble_eq_true rfl⟩, Nat.le_of_ble_eq_true rfl⟩ (cm_X12_askedFor b (I4 m_self f_Model_shownHigh) (I4 m_self f_Model_shownLow) I4 J5) (fun r6 => ?_)
  refine S.ldc2 (-1 : Int64) 16 rfl ko_X12_366 ?_
  refine S.lxor 17 rfl ?_
  refine S.land 18 rfl ?_
  exact S.lret 19 rfl rfl (Nat.le_refl _) (Nat.le_refl _) rfl
def F_X12_countAll (l1 : Int32) (I : HI) (J : HJ) : Option (Unit × HI × HJ) :=
  cl (F_X12_lay (0 : Int32) I J) fun _ I6 J7 =>
  lb (ui I6 m_self f_Model_asked l1) fun I8 =>
  lb (uj J7 m_self f_Model_bestCarry (0 : Int64)) fun J9 =>
  lb (ui I8 m_self f_Model_isCounted (1 : Int32)) fun I10 =>
  cl (F_X12_shine (I10 m_self f_Model_shownHigh) (I10 m_self f_Model_shownLow) I10 J9) fun _ I11 J12 =>
  lb (ui I11 m_self f_Model_isCounted (0 : Int32)) fun I13 =>
  lb (ui I13 m_self f_Model_asked (-1 : Int32)) fun I14 =>
  some ((), I14, J12)
set_option maxRecDepth 100000 in
theorem cm_X12_countAll (b : Bool) (l1 : Int32) (I : HI) (J : HJ) : CM mX12_countAll 24 0 0 [.ref 81, .int l1] (zs b, I, J) (fV (zs b)) (F_X12_countAll l1 I J) := by
  refine S.of okX12_countAll pn_X12 (Nat.le_of_ble_eq_true rfl) ?_
  refine S.sub (lv' := [(0, .ref 81), (1, .int l1)]) [0, 1] rfl ?_
  unfold F_X12_countAll
  refine S.aload_n 0 0 rfl rfl ?_
  refine S.iconst (0 : Int32) 1 rfl (by decide) ?_
  refine S.cVV (d := 4) (av := [.int (0 : Int32)]) (rs := [.int (0 : Int32)]) (b := 81) 2 rfl co_X12_343 rfl rfl rfl rfl rfl ⟨⟨Nat.le_of_ble_eq_true rfl, Nat.le_of_ble_eq_true rfl⟩, ⟨Nat.le_of_ble_eq_true rfl, Nat.le_of_ble_eq_true rfl⟩, Nat.le_of_ble_eq_true rfl⟩ (cm_X12_lay b (0 : Int32) I J) (fun _ I6 J7 => ?_)
  refine S.aload_n 3 0 rfl rfl ?_
  refine S.iload_n 4 1 rfl rfl ?_
  refine S.putI 5 rfl fo_X12_64 rfl rfl rfl rfl (fun _ hq => by cases hq; exact Or.inl rfl) (fun I8 => ?_)
  refine S.aload_n 6 0 rfl rfl ?_
  refine S.lconst (0 : Int64) 7 rfl (by decide) ?_
  refine S.putJ 8 rfl fo_X12_328 rfl rfl rfl rfl (fun _ hq => by cases hq; exact Or.inl rfl) (fun J9 => ?_)
  refine S.aload_n 9 0 rfl rfl ?_
  refine S.iconst (1 : Int32) 10 rfl (by decide) ?_
  refine S.putI 11 rfl fo_X12_301 rfl rfl (by decide) (by decide) (fun _ hq => by cases hq; exact Or.inl rfl) (fun I10 => ?_)
  refine S.aload_n 12 0 rfl rfl ?_
  refine S.aload_n 13 0 rfl rfl ?_
  refine S.getI 14 rfl fo_X12_211 rfl rfl ?_
  refine S.aload_n 15 0 rfl rfl ?_
  refine S.getI 16 rfl fo_X12_214 rfl rfl ?_
  refine S.cVV (d := 23) (av := [.int (I10 m_self f_Model_shownHigh), .int (I10 m_self f_Model_shownLow)]) (rs := [.int (I10 m_self f_Model_shownLow), .int (I10 m_self f_Model_shownHigh)]) (b := 81) 17 rfl co_X12_337 rfl rfl rfl rfl rfl ⟨⟨Nat.le_of_ble_eq_true rfl, Nat.le_of_ble_eq_true rfl⟩, ⟨Nat.le_of_ble_eq_true rfl, Nat.le_of_ble_eq_true rfl⟩, Nat.le_of_ble_eq_true rfl⟩ (cm_X12_shine b (I10 m_self f_Model_shownHigh) (I10 m_self f_Model_shownLow) I10 J9) (fun _ I11 J12 => ?_)
  refine S.aload_n 18 0 rfl rfl ?_
  refine S.iconst (0 : Int32) 19 rfl (by decide) ?_
  refine S.putI 20 rfl fo_X12_301 rfl rfl (by decide) (by decide) (fun _ hq => by cases hq; exact Or.inl rfl) (fun I13 => ?_)
  refine S.aload_n 21 0 rfl rfl ?_
  refine S.iconst (-1 : Int32) 22 rfl (by decide) ?_
  refine S.putI 23 rfl fo_X12_64 rfl rfl rfl rfl (fun _ hq => by cases hq; exact Or.inl rfl) (fun I14 => ?_)
  exact S.vret 24 rfl rfl (Nat.le_refl _) (Nat.le_refl _) rfl
def F_X12_tell (l1 : Int64) (I : HI) (J : HJ) : Option (Unit × HI × HJ) :=
  bx (I m_self f_Model_rowMany) 210 <|
  lb (uj J m_row (Int32.toNatClampNeg (I m_self f_Model_rowMany)) l1) fun J3 =>
  lb (ui I m_self f_Model_rowMany ((I m_self f_Model_rowMany) + (1 : Int32))) fun I4 =>
  some ((), I4, J3)
set_option maxRecDepth 100000 in
theorem cm_X12_tell (b : Bool) (l1 : Int64) (I : HI) (J : HJ) : CM mX12_tell 1 0 0 [.ref 81, .long l1] (zs b, I, J) (fV (zs b)) (F_X12_tell l1 I J) := by
  refine S.of okX12_tell pn_X12 (Nat.le_of_ble_eq_true rfl) ?_
  refine S.sub (lv' := [(0, .ref 81), (1, .long l1)]) [0, 1] rfl ?_
  unfold F_X12_tell
  refine S.aload_n 0 0 rfl rfl ?_
  refine S.getR 1 rfl fo_X12_33 rfl rfl rfl ?_
  refine S.aload_n 2 0 rfl rfl ?_
  refine S.getI 3 rfl fo_X12_162 rfl rfl ?_
  refine S.lload_n 4 1 rfl rfl ?_
  refine S.last 5 rfl rfl (fun J3 => ?_)
  refine S.aload_n 6 0 rfl rfl ?_
  refine S.dup 7 rfl rfl ?_
  refine S.getI 8 rfl fo_X12_162 rfl rfl ?_
  refine S.iconst (1 : Int32) 9 rfl (by decide) ?_
  refine S.iadd 10 rfl ?_
  refine S.putI 11 rfl fo_X12_162 rfl rfl rfl rfl (fun _ hq => by cases hq; exact Or.inl rfl) (fun I4 => ?_)
  exact S.vret 12 rfl rfl (Nat.le_refl _) (Nat.le_refl _) rfl
def F_X12_light (l1 : Int32) (I : HI) (J : HJ) : Option (Int64 × HI × HJ) :=
  lb (ui I m_self f_Model_thrown (0 : Int32)) fun I3 =>
  cp (F_X12_isLamp l1 I3 J) fun r4 =>
  if r4 = 0 then
    some ((-1 : Int64), I3, J)
  else
    cl (F_X12_countAll (-1 : Int32) I3 J) fun _ I5 J6 =>
    lb (ui I5 m_self f_Model_rowMany (0 : Int32)) fun I7 =>
    bx l1 60 <|
    cl (F_X12_tell (Int32.toInt64 (I7 m_through (Int32.toNatClampNeg l1))) I7 J6) fun _ I8 J9 =>
    bx l1 60 <|
    cl (F_X12_tell (J9 m_mostOne (Int32.toNatClampNeg l1)) I8 J9) fun _ I10 J11 =>
    bx l1 60 <|
    some ((J11 m_light (Int32.toNatClampNeg l1)), I10, J11)
set_option maxRecDepth 100000 in
theorem cm_X12_light (b : Bool) (l1 : Int32) (I : HI) (J : HJ) : CM mX12_light 25 0 0 [.ref 81, .int l1] (zs b, I, J) (fL (zs b)) (F_X12_light l1 I J) := by
  refine S.of okX12_light pn_X12 (Nat.le_of_ble_eq_true rfl) ?_
  refine S.sub (lv' := [(0, .ref 81), (1, .int l1)]) [0, 1] rfl ?_
  unfold F_X12_light
  refine S.aload_n 0 0 rfl rfl ?_
  refine S.iconst (0 : Int32) 1 rfl (by decide) ?_
  refine S.putI 2 rfl fo_X12_159 rfl rfl rfl rfl (fun _ hq => by cases hq; exact Or.inl rfl) (fun I3 => ?_)
  refine S.aload_n 3 0 rfl rfl ?_
  refine S.iload_n 4 1 rfl rfl ?_
  refine S.qVI (d := 2) (av := [.int l1]) (rs := [.int l1]) (b := 81) 5 rfl co_X12_234 rfl rfl rfl rfl rfl ⟨⟨Nat.le_of_ble_eq_true rfl, Nat.le_of_ble_eq_true rfl⟩, ⟨Nat.le_of_ble_eq_true rfl, Nat.le_of_ble_eq_true rfl⟩, Nat.le_of_ble_eq_true rfl⟩ (cm_X12_isLamp b l1 I3 J) (fun r4 => ?_)
  refine S.if_ne 17 6 rfl (by decide) (fun _ => ?_) (fun _ => ?_)
  · refine S.aload_n 9 0 rfl rfl ?_
    refine S.iconst (-1 : Int32) 10 rfl (by decide) ?_
    refine S.cVV (d := 24) (av := [.int (-1 : Int32)]) (rs := [.int (-1 : Int32)]) (b := 81) 11 rfl co_X12_368 rfl rfl rfl rfl rfl ⟨⟨Nat.le_of_ble_eq_true rfl, Nat.le_of_ble_eq_true rfl⟩, ⟨Nat.le_of_ble_eq_true rfl, Nat.le_of_ble_eq_true rfl⟩, Nat.le_of_ble_eq_true rfl⟩ (cm_X12_countAll b (-1 : Int32) I3 J) (fun _ I5 J6 => ?_)
    refine S.aload_n 12 0 rfl rfl ?_
    refine S.iconst (0 : Int32) 13 rfl (by decide) ?_
    refine S.putI 14 rfl fo_X12_162 rfl rfl rfl rfl (fun _ hq => by cases hq; exact Or.inl rfl) (fun I7 => ?_)
    refine S.aload_n 15 0 rfl rfl ?_
    refine S.aload_n 16 0 rfl rfl ?_
    refine S.getR 17 rfl fo_X12_52 rfl rfl rfl ?_
    refine S.iload_n 18 1 rfl rfl ?_
    refine S.iald 19 rfl rfl ?_
    refine S.i2l 20 rfl ?_
    refine S.cVV (d := 1) (av := [.long (Int32.toInt64 (I7 m_through (Int32.toNatClampNeg l1)))]) (rs := [.long (Int32.toInt64 (I7 m_through (Int32.toNatClampNeg l1)))]) (b := 81) 21 rfl co_X12_371 rfl rfl rfl rfl rfl ⟨⟨Nat.le_of_ble_eq_true rfl, Nat.le_of_ble_eq_true rfl⟩, ⟨Nat.le_of_ble_eq_true rfl, Nat.le_of_ble_eq_true rfl⟩, Nat.le_of_ble_eq_true rfl⟩ (cm_X12_tell b (Int32.toInt64 (I7 m_through (Int32.toNatClampNeg l1))) I7 J6) (fun _ I8 J9 => ?_)
    refine S.aload_n 22 0 rfl rfl ?_
    refine S.aload_n 23 0 rfl rfl ?_
    refine S.getR 24 rfl fo_X12_55 rfl rfl rfl ?_
    refine S.iload_n 25 1 rfl rfl ?_
    refine S.lald 26 rfl rfl ?_
    refine S.cVV (d := 1) (av := [.long (J9 m_mostOne (Int32.toNatClampNeg l1))]) (rs := [.long (J9 m_mostOne (Int32.toNatClampNeg l1))]) (b := 81) 27 rfl co_X12_371 rfl rfl rfl rfl rfl ⟨⟨Nat.le_of_ble_eq_true rfl, Nat.le_of_ble_eq_true rfl⟩, ⟨Nat.le_of_ble_eq_true rfl, Nat.le_of_ble_eq_true rfl⟩, Nat.le_of_ble_eq_true rfl⟩ (cm_X12_tell b (J9 m_mostOne (Int32.toNatClampNeg l1)) I8 J9) (fun _ I10 J11 => ?_)
    refine S.aload_n 28 0 rfl rfl ?_
    refine S.getR 29 rfl fo_X12_49 rfl rfl rfl ?_
    refine S.iload_n 30 1 rfl rfl ?_
    refine S.lald 31 rfl rfl ?_
    exact S.lret 32 rfl rfl (Nat.le_refl _) (Nat.le_refl _) rfl
  · refine S.ldc2 (-1 : Int64) 7 rfl ko_X12_366 ?_
    exact S.lret 8 rfl rfl (Nat.le_refl _) (Nat.le_refl _) rfl
def F_X12_why_L42 (kx67 : HI → HJ → Option (Int64 × HI × HJ)) : Nat → Int32 → HI → HJ → Option (Int64 × HI × HJ)
  | 0, _, _, _ => none
  | K+1, l2, I, J =>
    if (I m_self f_Model_bestMany) ≤ l2 then
      kx67 I J
    else
      bx l2 3 <|
      cl (F_X12_tell (Int32.toInt64 (I m_bestPath (Int32.toNatClampNeg l2))) I J) fun _ I8 J9 =>
      F_X12_why_L42 kx67 K (l2 + 1) I8 J9
set_option maxRecDepth 100000 in
theorem s_X12_why_L42 (b : Bool) (kx67 : HI → HJ → Option (Int64 × HI × HJ)) (hkx67 : ∀ (I1 : HI) (J1 : HJ), S (fL (zs b)) mX12_why (rmd 25 0 0) 0 0 (0, 0) 67 [(0, .ref 81)] [] (zs b, I1, J1) (kx67 I1 J1)) : ∀ (K : Nat) (l2 : Int32) (I : HI) (J : HJ), S (fL (zs b)) mX12_why (rmd 25 0 0) 0 0 (0, 0) 42 [(0, .ref 81), (2, .int l2)] [] (zs b, I, J) (F_X12_why_L42 kx67 K l2 I J) := by
  intro K
  induction K with
  | zero => intro l2 I J; exact S.none
  | succ K ih =>
    intro l2 I J
    rw [F_X12_why_L42]
    refine S.iload_n 24 1 rfl rfl ?_
    refine S.aload_n 25 0 rfl rfl ?_
    refine S.getI 26 rfl fo_X12_332 rfl rfl ?_
    refine S.icmp_ge 67 27 rfl (by decide) (fun _ => ?_) (fun _ => ?_)
    · refine S.sub (lv' := [(0, .ref 81)]) [0] rfl ?_
      exact hkx67 _ _
    · refine S.aload_n 28 0 rfl rfl ?_
      refine S.aload_n 29 0 rfl rfl ?_
      refine S.getR 30 rfl fo_X12_67 rfl rfl rfl ?_
      refine S.iload_n 31 1 rfl rfl ?_
      refine S.iald 32 rfl rfl ?_
      refine S.i2l 33 rfl ?_
      refine S.cVV (d := 1) (av := [.long (Int32.toInt64 (I m_bestPath (Int32.toNatClampNeg l2)))]) (rs := [.long (Int32.toInt64 (I m_bestPath (Int32.toNatClampNeg l2)))]) (b := 81) 34 rfl co_X12_371 rfl rfl rfl rfl rfl ⟨⟨Nat.le_of_ble_eq_true rfl, Nat.le_of_ble_eq_true rfl⟩, ⟨Nat.le_of_ble_eq_true rfl, Nat.le_of_ble_eq_true rfl⟩, Nat.le_of_ble_eq_true rfl⟩ (cm_X12_tell b (Int32.toInt64 (I m_bestPath (Int32.toNatClampNeg l2))) I J) (fun _ I8 J9 => ?_)
      refine S.iinc (l2 + 1) [(2, .int (l2 + 1)), (0, .ref 81)] 35 1 rfl rfl rfl (by decide) rfl ?_
      refine S.goto 42 36 rfl (by decide) ?_
      refine S.sub (lv' := [(0, .ref 81), (2, .int (l2 + 1))]) [1, 0] rfl ?_
      exact ih _ _ _
def F_X12_why (l1 : Int32) (I : HI) (J : HJ) : Option (Int64 × HI × HJ) :=
  lb (ui I m_self f_Model_thrown (0 : Int32)) fun I3 =>
  cp (F_X12_isLamp l1 I3 J) fun r4 =>
  if r4 = 0 then
    some ((-1 : Int64), I3, J)
  else
    cl (F_X12_countAll l1 I3 J) fun _ I5 J6 =>
    if (lg_cmp (J6 m_self f_Model_bestCarry) (0 : Int64)) = 0 then
      some ((-2 : Int64), I5, J6)
    else
      lb (ui I5 m_self f_Model_rowMany (0 : Int32)) fun I7 =>
      F_X12_why_L42 (fun (I10 : HI) (J11 : HJ) =>
      some ((J11 m_self f_Model_bestCarry), I10, J11)) bgf (0 : Int32) I7 J6
set_option maxRecDepth 100000 in
theorem cm_X12_why (b : Bool) (l1 : Int32) (I : HI) (J : HJ) : CM mX12_why 25 0 0 [.ref 81, .int l1] (zs b, I, J) (fL (zs b)) (F_X12_why l1 I J) := by
  refine S.of okX12_why pn_X12 (Nat.le_of_ble_eq_true rfl) ?_
  refine S.sub (lv' := [(0, .ref 81), (1, .int l1)]) [0, 1] rfl ?_
  unfold F_X12_why
  refine S.aload_n 0 0 rfl rfl ?_
  refine S.iconst (0 : Int32) 1 rfl (by decide) ?_
  refine S.putI 2 rfl fo_X12_159 rfl rfl rfl rfl (fun _ hq => by cases hq; exact Or.inl rfl) (fun I3 => ?_)
  refine S.aload_n 3 0 rfl rfl ?_
  refine S.iload_n 4 1 rfl rfl ?_
  refine S.qVI (d := 2) (av := [.int l1]) (rs := [.int l1]) (b := 81) 5 rfl co_X12_234 rfl rfl rfl rfl rfl ⟨⟨Nat.le_of_ble_eq_true rfl, Nat.le_of_ble_eq_true rfl⟩, ⟨Nat.le_of_ble_eq_true rfl, Nat.le_of_ble_eq_true rfl⟩, Nat.le_of_ble_eq_true rfl⟩ (cm_X12_isLamp b l1 I3 J) (fun r4 => ?_)
  refine S.if_ne 17 6 rfl (by decide) (fun _ => ?_) (fun _ => ?_)
  · refine S.aload_n 9 0 rfl rfl ?_
    refine S.iload_n 10 1 rfl rfl ?_
    refine S.cVV (d := 24) (av := [.int l1]) (rs := [.int l1]) (b := 81) 11 rfl co_X12_368 rfl rfl rfl rfl rfl ⟨⟨Nat.le_of_ble_eq_true rfl, Nat.le_of_ble_eq_true rfl⟩, ⟨Nat.le_of_ble_eq_true rfl, Nat.le_of_ble_eq_true rfl⟩, Nat.le_of_ble_eq_true rfl⟩ (cm_X12_countAll b l1 I3 J) (fun _ I5 J6 => ?_)
    refine S.aload_n 12 0 rfl rfl ?_
    refine S.getJ 13 rfl fo_X12_328 rfl rfl ?_
    refine S.lconst (0 : Int64) 14 rfl (by decide) ?_
    refine S.lcmp 15 rfl ?_
    refine S.if_ne 35 16 rfl (by decide) (fun _ => ?_) (fun _ => ?_)
    · refine S.aload_n 19 0 rfl rfl ?_
      refine S.iconst (0 : Int32) 20 rfl (by decide) ?_
      refine S.putI 21 rfl fo_X12_162 rfl rfl rfl rfl (fun _ hq => by cases hq; exact Or.inl rfl) (fun I7 => ?_)
      refine S.iconst (0 : Int32) 22 rfl (by decide) ?_
      refine S.istore_n [(2, .int (0 : Int32)), (0, .ref 81), (1, .int l1)] 23 rfl (by decide) rfl ?_
      refine S.sub (lv' := [(0, .ref 81), (2, .int (0 : Int32))]) [1, 0] rfl ?_
      refine s_X12_why_L42 b _ (fun I10 J11 => ?_) bgf _ _ _
      refine S.aload_n 37 0 rfl rfl ?_
      refine S.getJ 38 rfl fo_X12_328 rfl rfl ?_
      exact S.lret 39 rfl rfl (Nat.le_refl _) (Nat.le_refl _) rfl
    · refine S.ldc2 (-2 : Int64) 17 rfl ko_X12_375 ?_
      exact S.lret 18 rfl rfl (Nat.le_refl _) (Nat.le_refl _) rfl
  · refine S.ldc2 (-1 : Int64) 7 rfl ko_X12_366 ?_
    exact S.lret 8 rfl rfl (Nat.le_refl _) (Nat.le_refl _) rfl
def F_X12_draws (l1 : Int32) (I : HI) (J : HJ) : Option (Int64 × HI × HJ) :=
  lb (ui I m_self f_Model_thrown (0 : Int32)) fun I2 =>
  cp (F_X12_isWire l1 I2 J) fun r3 =>
  if r3 = 0 then
    some ((-1 : Int64), I2, J)
  else
    cl (F_X12_countAll (-1 : Int32) I2 J) fun _ I4 J5 =>
    bx l1 10 <|
    some ((J5 m_drawn (Int32.toNatClampNeg l1)), I4, J5)
set_option maxRecDepth 100000 in
theorem cm_X12_draws (b : Bool) (l1 : Int32) (I : HI) (J : HJ) : CM mX12_draws 25 0 0 [.ref 81, .int l1] (zs b, I, J) (fL (zs b)) (F_X12_draws l1 I J) := by
  refine S.of okX12_draws pn_X12 (Nat.le_of_ble_eq_true rfl) ?_
  refine S.sub (lv' := [(0, .ref 81), (1, .int l1)]) [0, 1] rfl ?_
  unfold F_X12_draws
  refine S.aload_n 0 0 rfl rfl ?_
  refine S.iconst (0 : Int32) 1 rfl (by decide) ?_
  refine S.putI 2 rfl fo_X12_159 rfl rfl rfl rfl (fun _ hq => by cases hq; exact Or.inl rfl) (fun I2 => ?_)
  refine S.aload_n 3 0 rfl rfl ?_
  refine S.iload_n 4 1 rfl rfl ?_
  refine S.qVI (d := 2) (av := [.int l1]) (rs := [.int l1]) (b := 81) 5 rfl co_X12_241 rfl rfl rfl rfl rfl ⟨⟨Nat.le_of_ble_eq_true rfl, Nat.le_of_ble_eq_true rfl⟩, ⟨Nat.le_of_ble_eq_true rfl, Nat.le_of_ble_eq_true rfl⟩, Nat.le_of_ble_eq_true rfl⟩ (cm_X12_isWire b l1 I2 J) (fun r3 => ?_)
  refine S.if_ne 17 6 rfl (by decide) (fun _ => ?_) (fun _ => ?_)
  · refine S.aload_n 9 0 rfl rfl ?_
    refine S.iconst (-1 : Int32) 10 rfl (by decide) ?_
    refine S.cVV (d := 24) (av := [.int (-1 : Int32)]) (rs := [.int (-1 : Int32)]) (b := 81) 11 rfl co_X12_368 rfl rfl rfl rfl rfl ⟨⟨Nat.le_of_ble_eq_true rfl, Nat.le_of_ble_eq_true rfl⟩, ⟨Nat.le_of_ble_eq_true rfl, Nat.le_of_ble_eq_true rfl⟩, Nat.le_of_ble_eq_true rfl⟩ (cm_X12_countAll b (-1 : Int32) I2 J) (fun _ I4 J5 => ?_)
    refine S.aload_n 12 0 rfl rfl ?_
    refine S.getR 13 rfl fo_X12_58 rfl rfl rfl ?_
    refine S.iload_n 14 1 rfl rfl ?_
    refine S.lald 15 rfl rfl ?_
    exact S.lret 16 rfl rfl (Nat.le_refl _) (Nat.le_refl _) rfl
  · refine S.ldc2 (-1 : Int64) 7 rfl ko_X12_366 ?_
    exact S.lret 8 rfl rfl (Nat.le_refl _) (Nat.le_refl _) rfl
def F_X12_brightest_L17 (I : HI) (J : HJ) (kx87 : Int32 → Int32 → Option (Int32 × HI × HJ)) : Nat → Int32 → Int32 → Int32 → Option (Int32 × HI × HJ)
  | 0, _, _, _ => none
  | K+1, l1, l2, l3 =>
    if (I m_self f_Model_lamps) ≤ l3 then
      kx87 l1 l2
    else
      cp (F_X12_isBright l3 I J) fun r6 =>
      lb (fun (y7 : Int32) (y8 : Int32) =>
      F_X12_brightest_L17 I J kx87 K y7 y8 (l3 + 1)) fun j9 =>
      if r6 = 0 then
        j9 l1 l2
      else
        lb (fun (y10 : Int32) =>
        lb (
        j9 y10 l3) fun j12 =>
        if l2 = (-1 : Int32) then
          j12
        else
          bx l3 60 <|
          bx l2 60 <|
          if 0 ≤ (lg_cmp (J m_light (Int32.toNatClampNeg l3)) (J m_light (Int32.toNatClampNeg l2))) then
            j9 y10 l2
          else
            j12) fun j11 =>
        lb (
        j11 l3) fun j13 =>
        if l1 < 0 then
          j13
        else
          bx l3 60 <|
          bx l1 60 <|
          if (lg_cmp (J m_light (Int32.toNatClampNeg l3)) (J m_light (Int32.toNatClampNeg l1))) ≤ 0 then
            j11 l1
          else
            j13
set_option maxRecDepth 100000 in
theorem s_X12_brightest_L17 (b : Bool) (I : HI) (J : HJ) (kx87 : Int32 → Int32 → Option (Int32 × HI × HJ)) (hkx87 : ∀ (y1 : Int32) (y2 : Int32), S (fI (zs b)) mX12_brightest (rmd 25 0 0) 0 0 (0, 0) 87 [(0, .ref 81), (1, .int y1), (2, .int y2)] [] (zs b, I, J) (kx87 y1 y2)) : ∀ (K : Nat) (l1 : Int32) (l2 : Int32) (l3 : Int32), S (fI (zs b)) mX12_brightest (rmd 25 0 0) 0 0 (0, 0) 17 [(0, .ref 81), (1, .int l1), (2, .int l2), (3, .int l3)] [] (zs b, I, J) (F_X12_brightest_L17 I J kx87 K l1 l2 l3) := by
  intro K
  induction K with
  | zero => intro l1 l2 l3; exact S.none
  | succ K ih =>
    intro l1 l2 l3
    rw [F_X12_brightest_L17]
    refine S.iload_n 12 3 rfl rfl ?_
    refine S.aload_n 13 0 rfl rfl ?_
    refine S.getI 14 rfl fo_X12_169 rfl rfl ?_
    refine S.icmp_ge 87 15 rfl (by decide) (fun _ => ?_) (fun _ => ?_)
    · refine S.sub (lv' := [(0, .ref 81), (1, .int l1), (2, .int l2)]) [0, 1, 2] rfl ?_
      exact hkx87 _ _
    · refine S.aload_n 16 0 rfl rfl ?_
      refine S.iload_n 17 3 rfl rfl ?_
      refine S.qVI (d := 1) (av := [.int l3]) (rs := [.int l3]) (b := 81) 18 rfl co_X12_340 rfl rfl rfl rfl rfl ⟨⟨Nat.le_of_ble_eq_true rfl, Nat.le_of_ble_eq_true rfl⟩, ⟨Nat.le_of_ble_eq_true rfl, Nat.le_of_ble_eq_true rfl⟩, Nat.le_of_ble_eq_true rfl⟩ (cm_X12_isBright b l3 I J) (fun r6 => ?_)
      refine S.jn (fun j => ∀ (y7 : Int32) (y8 : Int32), S (fI (zs b)) mX12_brightest (rmd 25 0 0) 0 0 (0, 0) 81 [(0, .ref 81), (1, .int y7), (2, .int y8), (3, .int l3)] [] (zs b, I, J) (j y7 y8)) (fun y7 y8 => ?_) (fun j9 hj9 => ?_)
      · refine S.iinc (l3 + 1) [(3, .int (l3 + 1)), (0, .ref 81), (1, .int y7), (2, .int y8)] 50 3 rfl rfl rfl (by decide) rfl ?_
        refine S.goto 17 51 rfl (by decide) ?_
        refine S.sub (lv' := [(0, .ref 81), (1, .int y7), (2, .int y8), (3, .int (l3 + 1))]) [1, 2, 3, 0] rfl ?_
        exact ih _ _ _
      · refine S.if_ne 36 19 rfl (by decide) (fun _ => ?_) (fun _ => ?_)
        · refine S.iload_n 21 1 rfl rfl ?_
          refine S.jn (fun j => ∀ (y10 : Int32), S (fI (zs b)) mX12_brightest (rmd 25 0 0) 0 0 (0, 0) 58 [(0, .ref 81), (1, .int y10), (2, .int l2), (3, .int l3)] [] (zs b, I, J) (j y10)) (fun y10 => ?_) (fun j11 hj11 => ?_)
          · refine S.iload_n 35 2 rfl rfl ?_
            refine S.iconst (-1 : Int32) 36 rfl (by decide) ?_
            refine S.jn (fun j => S (fI (zs b)) mX12_brightest (rmd 25 0 0) 0 0 (0, 0) 79 [(0, .ref 81), (1, .int y10), (3, .int l3)] [] (zs b, I, J) (j)) ?_ (fun j12 hj12 => ?_)
            · refine S.iload_n 48 2 rfl rfl ?_
              refine S.istore_n [(2, .int l3), (0, .ref 81), (1, .int y10), (3, .int l3)] 49 rfl (by decide) rfl ?_
              refine S.sub (lv' := [(0, .ref 81), (1, .int y10), (2, .int l3), (3, .int l3)]) [1, 2, 0, 3] rfl ?_
              exact hj9 _ _
            · refine S.icmp_eq 79 37 rfl (by decide) (fun _ => ?_) (fun _ => ?_)
              · refine S.sub (lv' := [(0, .ref 81), (1, .int y10), (3, .int l3)]) [0, 1, 3] rfl ?_
                exact hj12
              · refine S.aload_n 38 0 rfl rfl ?_
                refine S.getR 39 rfl fo_X12_49 rfl rfl rfl ?_
                refine S.iload_n 40 3 rfl rfl ?_
                refine S.lald 41 rfl rfl ?_
                refine S.aload_n 42 0 rfl rfl ?_
                refine S.getR 43 rfl fo_X12_49 rfl rfl rfl ?_
                refine S.iload_n 44 2 rfl rfl ?_
                refine S.lald 45 rfl rfl ?_
                refine S.lcmp 46 rfl ?_
                refine S.if_ge 81 47 rfl (by decide) (fun _ => ?_) (fun _ => ?_)
                · exact hj9 _ _
                · refine S.sub (lv' := [(0, .ref 81), (1, .int y10), (3, .int l3)]) [0, 1, 3] rfl ?_
                  exact hj12
          · refine S.jn (fun j => S (fI (zs b)) mX12_brightest (rmd 25 0 0) 0 0 (0, 0) 56 [(0, .ref 81), (2, .int l2), (3, .int l3)] [] (zs b, I, J) (j)) ?_ (fun j13 hj13 => ?_)
            · refine S.iload_n 33 2 rfl rfl ?_
              refine S.istore_n [(1, .int l3), (0, .ref 81), (2, .int l2), (3, .int l3)] 34 rfl (by decide) rfl ?_
              refine S.sub (lv' := [(0, .ref 81), (1, .int l3), (2, .int l2), (3, .int l3)]) [1, 0, 2, 3] rfl ?_
              exact hj11 _
            · refine S.if_lt 56 22 rfl (by decide) (fun _ => ?_) (fun _ => ?_)
              · refine S.sub (lv' := [(0, .ref 81), (2, .int l2), (3, .int l3)]) [0, 2, 3] rfl ?_
                exact hj13
              · refine S.aload_n 23 0 rfl rfl ?_
                refine S.getR 24 rfl fo_X12_49 rfl rfl rfl ?_
                refine S.iload_n 25 3 rfl rfl ?_
                refine S.lald 26 rfl rfl ?_
                refine S.aload_n 27 0 rfl rfl ?_
                refine S.getR 28 rfl fo_X12_49 rfl rfl rfl ?_
                refine S.iload_n 29 1 rfl rfl ?_
                refine S.lald 30 rfl rfl ?_
                refine S.lcmp 31 rfl ?_
                refine S.if_le 58 32 rfl (by decide) (fun _ => ?_) (fun _ => ?_)
                · exact hj11 _
                · refine S.sub (lv' := [(0, .ref 81), (2, .int l2), (3, .int l3)]) [0, 2, 3] rfl ?_
                  exact hj13
        · refine S.goto 81 20 rfl (by decide) ?_
          exact hj9 _ _
def F_X12_brightest  (I : HI) (J : HJ) : Option (Int32 × HI × HJ) :=
  lb (ui I m_self f_Model_thrown (0 : Int32)) fun I3 =>
  cl (F_X12_countAll (-1 : Int32) I3 J) fun _ I4 J5 =>
  F_X12_brightest_L17 I4 J5 (fun (y14 : Int32) (y15 : Int32) =>
  if 0 ≤ y14 then
    lb (ui I4 m_self f_Model_rowMany (0 : Int32)) fun I16 =>
    bx y14 60 <|
    cl (F_X12_tell (J5 m_light (Int32.toNatClampNeg y14)) I16 J5) fun _ I17 J18 =>
    cl (F_X12_tell (Int32.toInt64 y15) I17 J18) fun _ I19 J20 =>
    bx y15 60 <|
    cl (F_X12_tell (J20 m_light (Int32.toNatClampNeg y15)) I19 J20) fun _ I21 J22 =>
    some (y14, I21, J22)
  else
    some ((-2 : Int32), I4, J5)) bgf (-2 : Int32) (-1 : Int32) (0 : Int32)
set_option maxRecDepth 100000 in
theorem cm_X12_brightest (b : Bool)  (I : HI) (J : HJ) : CM mX12_brightest 25 0 0 [.ref 81] (zs b, I, J) (fI (zs b)) (F_X12_brightest  I J) := by
  refine S.of okX12_brightest pn_X12 (Nat.le_of_ble_eq_true rfl) ?_
  refine S.sub (lv' := [(0, .ref 81)]) [0] rfl ?_
  unfold F_X12_brightest
  refine S.aload_n 0 0 rfl rfl ?_
  refine S.iconst (0 : Int32) 1 rfl (by decide) ?_
  refine S.putI 2 rfl fo_X12_159 rfl rfl rfl rfl (fun _ hq => by cases hq; exact Or.inl rfl) (fun I3 => ?_)
  refine S.aload_n 3 0 rfl rfl ?_
  refine S.iconst (-1 : Int32) 4 rfl (by decide) ?_
  refine S.cVV (d := 24) (av := [.int (-1 : Int32)]) (rs := [.int (-1 : Int32)]) (b := 81) 5 rfl co_X12_368 rfl rfl rfl rfl rfl ⟨⟨Nat.le_of_ble_eq_true rfl, Nat.le_of_ble_eq_true rfl⟩, ⟨Nat.le_of_ble_eq_true rfl, Nat.le_of_ble_eq_true rfl⟩, Nat.le_of_ble_eq_true rfl⟩ (cm_X12_countAll b (-1 : Int32) I3 J) (fun _ I4 J5 => ?_)
  refine S.bipush (-2 : Int32) 6 rfl (by decide) ?_
  refine S.istore_n [(1, .int (-2 : Int32)), (0, .ref 81)] 7 rfl (by decide) rfl ?_
  refine S.iconst (-1 : Int32) 8 rfl (by decide) ?_
  refine S.istore_n [(2, .int (-1 : Int32)), (1, .int (-2 : Int32)), (0, .ref 81)] 9 rfl (by decide) rfl ?_
  refine S.iconst (0 : Int32) 10 rfl (by decide) ?_
  refine S.istore_n [(3, .int (0 : Int32)), (2, .int (-1 : Int32)), (1, .int (-2 : Int32)), (0, .ref 81)] 11 rfl (by decide) rfl ?_
  refine S.sub (lv' := [(0, .ref 81), (1, .int (-2 : Int32)), (2, .int (-1 : Int32)), (3, .int (0 : Int32))]) [3, 2, 1, 0] rfl ?_
  refine s_X12_brightest_L17 b _ _ _ (fun y14 y15 => ?_) bgf _ _ _
  refine S.iload_n 52 1 rfl rfl ?_
  refine S.if_ge 94 53 rfl (by decide) (fun _ => ?_) (fun _ => ?_)
  · refine S.aload_n 56 0 rfl rfl ?_
    refine S.iconst (0 : Int32) 57 rfl (by decide) ?_
    refine S.putI 58 rfl fo_X12_162 rfl rfl rfl rfl (fun _ hq => by cases hq; exact Or.inl rfl) (fun I16 => ?_)
    refine S.aload_n 59 0 rfl rfl ?_
    refine S.aload_n 60 0 rfl rfl ?_
    refine S.getR 61 rfl fo_X12_49 rfl rfl rfl ?_
    refine S.iload_n 62 1 rfl rfl ?_
    refine S.lald 63 rfl rfl ?_
    refine S.cVV (d := 1) (av := [.long (J5 m_light (Int32.toNatClampNeg y14))]) (rs := [.long (J5 m_light (Int32.toNatClampNeg y14))]) (b := 81) 64 rfl co_X12_371 rfl rfl rfl rfl rfl ⟨⟨Nat.le_of_ble_eq_true rfl, Nat.le_of_ble_eq_true rfl⟩, ⟨Nat.le_of_ble_eq_true rfl, Nat.le_of_ble_eq_true rfl⟩, Nat.le_of_ble_eq_true rfl⟩ (cm_X12_tell b (J5 m_light (Int32.toNatClampNeg y14)) I16 J5) (fun _ I17 J18 => ?_)
    refine S.aload_n 65 0 rfl rfl ?_
    refine S.iload_n 66 2 rfl rfl ?_
    refine S.i2l 67 rfl ?_
    refine S.cVV (d := 1) (av := [.long (Int32.toInt64 y15)]) (rs := [.long (Int32.toInt64 y15)]) (b := 81) 68 rfl co_X12_371 rfl rfl rfl rfl rfl ⟨⟨Nat.le_of_ble_eq_true rfl, Nat.le_of_ble_eq_true rfl⟩, ⟨Nat.le_of_ble_eq_true rfl, Nat.le_of_ble_eq_true rfl⟩, Nat.le_of_ble_eq_true rfl⟩ (cm_X12_tell b (Int32.toInt64 y15) I17 J18) (fun _ I19 J20 => ?_)
    refine S.aload_n 69 0 rfl rfl ?_
    refine S.aload_n 70 0 rfl rfl ?_
    refine S.getR 71 rfl fo_X12_49 rfl rfl rfl ?_
    refine S.iload_n 72 2 rfl rfl ?_
    refine S.lald 73 rfl rfl ?_
    refine S.cVV (d := 1) (av := [.long (J20 m_light (Int32.toNatClampNeg y15))]) (rs := [.long (J20 m_light (Int32.toNatClampNeg y15))]) (b := 81) 74 rfl co_X12_371 rfl rfl rfl rfl rfl ⟨⟨Nat.le_of_ble_eq_true rfl, Nat.le_of_ble_eq_true rfl⟩, ⟨Nat.le_of_ble_eq_true rfl, Nat.le_of_ble_eq_true rfl⟩, Nat.le_of_ble_eq_true rfl⟩ (cm_X12_tell b (J20 m_light (Int32.toNatClampNeg y15)) I19 J20) (fun _ I21 J22 => ?_)
    refine S.iload_n 75 1 rfl rfl ?_
    exact S.iret 76 rfl rfl rfl (Nat.le_refl _) (Nat.le_refl _) rfl
  · refine S.bipush (-2 : Int32) 54 rfl (by decide) ?_
    exact S.iret 55 rfl rfl rfl (Nat.le_refl _) (Nat.le_refl _) rfl
def F_X12_areLamps (l1 : Int64) (I : HI) (J : HJ) : Option Int32 :=
  cp (F_X12_in l1 (0 : Int64) ((olshl (1 : Int64) (I m_self f_Model_lamps)) - (1 : Int64))) fun r1 =>
  g01 r1 <|
  some r1
set_option maxRecDepth 100000 in
theorem cm_X12_areLamps (b : Bool) (l1 : Int64) (I : HI) (J : HJ) : CM mX12_areLamps 2 0 0 [.ref 81, .long l1] (zs b, I, J) (pI (zs b, I, J)) (F_X12_areLamps l1 I J) := by
  refine S.of okX12_areLamps pn_X12 (Nat.le_of_ble_eq_true rfl) ?_
  refine S.sub (lv' := [(0, .ref 81), (1, .long l1)]) [0, 1] rfl ?_
  unfold F_X12_areLamps
  refine S.lload_n 0 1 rfl rfl ?_
  refine S.lconst (0 : Int64) 1 rfl (by decide) ?_
  refine S.lconst (1 : Int64) 2 rfl (by decide) ?_
  refine S.aload_n 3 0 rfl rfl ?_
  refine S.getI 4 rfl fo_X12_169 rfl rfl ?_
  refine S.lshl 5 rfl ?_
  refine S.lconst (1 : Int64) 6 rfl (by decide) ?_
  refine S.lsub 7 rfl ?_
  refine S.qSI (d := 1) (av := [.long l1, .long (0 : Int64), .long ((olshl (1 : Int64) (I m_self f_Model_lamps)) - (1 : Int64))]) (rs := [.long ((olshl (1 : Int64) (I m_self f_Model_lamps)) - (1 : Int64)), .long (0 : Int64), .long l1]) 8 rfl co_X12_165 rfl rfl ⟨⟨Nat.le_of_ble_eq_true rfl, Nat.le_of_ble_eq_true rfl⟩, ⟨Nat.le_of_ble_eq_true rfl, Nat.le_of_ble_eq_true rfl⟩, Nat.le_of_ble_eq_true rfl⟩ (cm_X12_in (zs b, I, J) l1 (0 : Int64) ((olshl (1 : Int64) (I m_self f_Model_lamps)) - (1 : Int64))) (fun r1 => ?_)
  refine S.gg01 (fun h01 => ?_)
  exact S.iret 9 rfl rfl (nar01 h01) (Nat.le_refl _) (Nat.le_refl _) rfl
def F_X12_canSearch  (I : HI) (J : HJ) : Option Int32 :=
  if (7 : Int32) < (I m_self f_Model_wide) then
    some (0 : Int32)
  else
    some (1 : Int32)
set_option maxRecDepth 100000 in
theorem cm_X12_canSearch (b : Bool)  (I : HI) (J : HJ) : CM mX12_canSearch 1 0 0 [.ref 81] (zs b, I, J) (pI (zs b, I, J)) (F_X12_canSearch  I J) := by
  refine S.of okX12_canSearch pn_X12 (Nat.le_of_ble_eq_true rfl) ?_
  refine S.sub (lv' := [(0, .ref 81)]) [0] rfl ?_
  unfold F_X12_canSearch
  refine S.aload_n 0 0 rfl rfl ?_
  refine S.getI 1 rfl fo_X12_9 rfl rfl ?_
  refine S.bipush (7 : Int32) 2 rfl (by decide) ?_
  refine S.icmp_gt 13 3 rfl (by decide) (fun _ => ?_) (fun _ => ?_)
  · refine S.iconst (0 : Int32) 6 rfl (by decide) ?_
    exact S.iret 7 rfl rfl rfl (Nat.le_refl _) (Nat.le_refl _) rfl
  · refine S.iconst (1 : Int32) 4 rfl (by decide) ?_
    refine S.goto 14 5 rfl (by decide) ?_
    exact S.iret 7 rfl rfl rfl (Nat.le_refl _) (Nat.le_refl _) rfl
def F_X12_settings_L4 (I : HI) (J : HJ) : Nat → Int32 → Int32 → Option Int32
  | 0, _, _ => none
  | K+1, l1, l2 =>
    if (I m_self f_Model_wide) ≤ l2 then
      some l1
    else
      lb ((l1 * (3 : Int32))) fun x2 =>
      F_X12_settings_L4 I J K x2 (l2 + 1)
set_option maxRecDepth 100000 in
theorem s_X12_settings_L4 (b : Bool) (I : HI) (J : HJ) : ∀ (K : Nat) (l1 : Int32) (l2 : Int32), S (pI (zs b, I, J)) mX12_settings (rmd 1 0 0) 0 0 (0, 0) 4 [(0, .ref 81), (1, .int l1), (2, .int l2)] [] (zs b, I, J) (F_X12_settings_L4 I J K l1 l2) := by
  intro K
  induction K with
  | zero => intro l1 l2; exact S.none
  | succ K ih =>
    intro l1 l2
    rw [F_X12_settings_L4]
    refine S.iload_n 4 2 rfl rfl ?_
    refine S.aload_n 5 0 rfl rfl ?_
    refine S.getI 6 rfl fo_X12_9 rfl rfl ?_
    refine S.icmp_ge 22 7 rfl (by decide) (fun _ => ?_) (fun _ => ?_)
    · refine S.iload_n 14 1 rfl rfl ?_
      exact S.iret 15 rfl rfl rfl (Nat.le_refl _) (Nat.le_refl _) rfl
    · refine S.iload_n 8 1 rfl rfl ?_
      refine S.iconst (3 : Int32) 9 rfl (by decide) ?_
      refine S.imul 10 rfl ?_
      refine S.nmi (fun x2 => ?_)
      refine S.istore_n [(1, .int x2), (0, .ref 81), (2, .int l2)] 11 rfl (by decide) rfl ?_
      refine S.iinc (l2 + 1) [(2, .int (l2 + 1)), (1, .int x2), (0, .ref 81)] 12 2 rfl rfl rfl (by decide) rfl ?_
      refine S.goto 4 13 rfl (by decide) ?_
      refine S.sub (lv' := [(0, .ref 81), (1, .int x2), (2, .int (l2 + 1))]) [2, 1, 0] rfl ?_
      exact ih _ _
def F_X12_settings  (I : HI) (J : HJ) : Option Int32 :=
  F_X12_settings_L4 I J bgf (1 : Int32) (0 : Int32)
set_option maxRecDepth 100000 in
theorem cm_X12_settings (b : Bool)  (I : HI) (J : HJ) : CM mX12_settings 1 0 0 [.ref 81] (zs b, I, J) (pI (zs b, I, J)) (F_X12_settings  I J) := by
  refine S.of okX12_settings pn_X12 (Nat.le_of_ble_eq_true rfl) ?_
  refine S.sub (lv' := [(0, .ref 81)]) [0] rfl ?_
  unfold F_X12_settings
  refine S.iconst (1 : Int32) 0 rfl (by decide) ?_
  refine S.istore_n [(1, .int (1 : Int32)), (0, .ref 81)] 1 rfl (by decide) rfl ?_
  refine S.iconst (0 : Int32) 2 rfl (by decide) ?_
  refine S.istore_n [(2, .int (0 : Int32)), (1, .int (1 : Int32)), (0, .ref 81)] 3 rfl (by decide) rfl ?_
  refine S.sub (lv' := [(0, .ref 81), (1, .int (1 : Int32)), (2, .int (0 : Int32))]) [2, 1, 0] rfl ?_
  refine s_X12_settings_L4 b _ _ bgf _ _
def F_X12_wiresAt_L13 (l2 : Int32) (I : HI) (J : HJ) : Nat → Int32 → Int32 → Int32 → Option Int32
  | 0, _, _, _ => none
  | K+1, l3, l4, l5 =>
    if l5 < 0 then
      some l3
    else
      nzi (3 : Int32) <|
      lb (fun (y5 : Int32) (y6 : Int32) =>
      lb ((y5 ||| y6)) fun x8 =>
      nzi (3 : Int32) <|
      lb ((l4 / (3 : Int32))) fun x9 =>
      F_X12_wiresAt_L13 l2 I J K x8 x9 (l5 + (-1))) fun j7 =>
      if (orem l4 (3 : Int32)) = l2 then
        j7 l3 (oshl (1 : Int32) l5)
      else
        j7 l3 (0 : Int32)
set_option maxRecDepth 100000 in
theorem s_X12_wiresAt_L13 (b : Bool) (l2 : Int32) (I : HI) (J : HJ) : ∀ (K : Nat) (l3 : Int32) (l4 : Int32) (l5 : Int32), S (pI (zs b, I, J)) mX12_wiresAt (rmd 1 0 0) 0 0 (0, 0) 13 [(2, .int l2), (3, .int l3), (4, .int l4), (5, .int l5)] [] (zs b, I, J) (F_X12_wiresAt_L13 l2 I J K l3 l4 l5) := by
  intro K
  induction K with
  | zero => intro l3 l4 l5; exact S.none
  | succ K ih =>
    intro l3 l4 l5
    rw [F_X12_wiresAt_L13]
    refine S.iload 9 3 rfl rfl ?_
    refine S.if_lt 49 10 rfl (by decide) (fun _ => ?_) (fun _ => ?_)
    · refine S.iload_n 30 1 rfl rfl ?_
      exact S.iret 31 rfl rfl rfl (Nat.le_refl _) (Nat.le_refl _) rfl
    · refine S.iload_n 11 1 rfl rfl ?_
      refine S.iload 12 2 rfl rfl ?_
      refine S.iconst (3 : Int32) 13 rfl (by decide) ?_
      refine S.irem 14 rfl ?_
      refine S.iload_n 15 0 rfl rfl ?_
      refine S.jn (fun j => ∀ (y5 : Int32) (y6 : Int32), S (pI (zs b, I, J)) mX12_wiresAt (rmd 1 0 0) 0 0 (0, 0) 35 [(2, .int l2), (4, .int l4), (5, .int l5)] [.int y6, .int y5] (zs b, I, J) (j y5 y6)) (fun y5 y6 => ?_) (fun j7 hj7 => ?_)
      · refine S.ior 22 rfl ?_
        refine S.nmi (fun x8 => ?_)
        refine S.istore_n [(3, .int x8), (2, .int l2), (4, .int l4), (5, .int l5)] 23 rfl (by decide) rfl ?_
        refine S.iload 24 2 rfl rfl ?_
        refine S.iconst (3 : Int32) 25 rfl (by decide) ?_
        refine S.idiv 26 rfl ?_
        refine S.nmi (fun x9 => ?_)
        refine S.istore [(4, .int x9), (3, .int x8), (2, .int l2), (5, .int l5)] 27 rfl (by decide) rfl ?_
        refine S.iinc (l5 + (-1)) [(5, .int (l5 + (-1))), (4, .int x9), (3, .int x8), (2, .int l2)] 28 3 rfl rfl rfl (by decide) rfl ?_
        refine S.goto 13 29 rfl (by decide) ?_
        refine S.sub (lv' := [(2, .int l2), (3, .int x8), (4, .int x9), (5, .int (l5 + (-1)))]) [3, 2, 1, 0] rfl ?_
        exact ih _ _ _
      · refine S.icmp_ne 34 16 rfl (by decide) (fun _ => ?_) (fun _ => ?_)
        · refine S.iconst (0 : Int32) 21 rfl (by decide) ?_
          refine S.sub (lv' := [(2, .int l2), (4, .int l4), (5, .int l5)]) [0, 2, 3] rfl ?_
          exact hj7 _ _
        · refine S.iconst (1 : Int32) 17 rfl (by decide) ?_
          refine S.iload 18 3 rfl rfl ?_
          refine S.ishl 19 rfl ?_
          refine S.goto 35 20 rfl (by decide) ?_
          refine S.sub (lv' := [(2, .int l2), (4, .int l4), (5, .int l5)]) [0, 2, 3] rfl ?_
          exact hj7 _ _
def F_X12_wiresAt (l1 : Int32) (l2 : Int32) (I : HI) (J : HJ) : Option Int32 :=
  lb (((I m_self f_Model_wide) - (1 : Int32))) fun x4 =>
  F_X12_wiresAt_L13 l2 I J bgf (0 : Int32) l1 x4
set_option maxRecDepth 100000 in
theorem cm_X12_wiresAt (b : Bool) (l1 : Int32) (l2 : Int32) (I : HI) (J : HJ) : CM mX12_wiresAt 1 0 0 [.ref 81, .int l1, .int l2] (zs b, I, J) (pI (zs b, I, J)) (F_X12_wiresAt l1 l2 I J) := by
  refine S.of okX12_wiresAt pn_X12 (Nat.le_of_ble_eq_true rfl) ?_
  refine S.sub (lv' := [(0, .ref 81), (1, .int l1), (2, .int l2)]) [0, 1, 2] rfl ?_
  unfold F_X12_wiresAt
  refine S.iconst (0 : Int32) 0 rfl (by decide) ?_
  refine S.istore_n [(3, .int (0 : Int32)), (0, .ref 81), (1, .int l1), (2, .int l2)] 1 rfl (by decide) rfl ?_
  refine S.iload_n 2 2 rfl rfl ?_
  refine S.istore [(4, .int l1), (3, .int (0 : Int32)), (0, .ref 81), (1, .int l1), (2, .int l2)] 3 rfl (by decide) rfl ?_
  refine S.aload_n 4 2 rfl rfl ?_
  refine S.getI 5 rfl fo_X12_9 rfl rfl ?_
  refine S.iconst (1 : Int32) 6 rfl (by decide) ?_
  refine S.isub 7 rfl ?_
  refine S.nmi (fun x4 => ?_)
  refine S.istore [(5, .int x4), (4, .int l1), (3, .int (0 : Int32)), (0, .ref 81), (1, .int l1), (2, .int l2)] 8 rfl (by decide) rfl ?_
  refine S.sub (lv' := [(2, .int l2), (3, .int (0 : Int32)), (4, .int l1), (5, .int x4)]) [5, 2, 1, 0] rfl ?_
  refine s_X12_wiresAt_L13 b _ _ _ bgf _ _ _
def F_X12_highOf (l1 : Int32) (I : HI) (J : HJ) : Option Int32 :=
  cp (F_X12_wiresAt l1 (1 : Int32) I J) fun r1 =>
  some r1
set_option maxRecDepth 100000 in
theorem cm_X12_highOf (b : Bool) (l1 : Int32) (I : HI) (J : HJ) : CM mX12_highOf 2 0 0 [.ref 81, .int l1] (zs b, I, J) (pI (zs b, I, J)) (F_X12_highOf l1 I J) := by
  refine S.of okX12_highOf pn_X12 (Nat.le_of_ble_eq_true rfl) ?_
  refine S.sub (lv' := [(0, .ref 81), (1, .int l1)]) [0, 1] rfl ?_
  unfold F_X12_highOf
  refine S.aload_n 0 0 rfl rfl ?_
  refine S.iload_n 1 1 rfl rfl ?_
  refine S.iconst (1 : Int32) 2 rfl (by decide) ?_
  refine S.qVI (d := 1) (av := [.int l1, .int (1 : Int32)]) (rs := [.int (1 : Int32), .int l1]) (b := 81) 3 rfl co_X12_377 rfl rfl rfl rfl rfl ⟨⟨Nat.le_of_ble_eq_true rfl, Nat.le_of_ble_eq_true rfl⟩, ⟨Nat.le_of_ble_eq_true rfl, Nat.le_of_ble_eq_true rfl⟩, Nat.le_of_ble_eq_true rfl⟩ (cm_X12_wiresAt b l1 (1 : Int32) I J) (fun r1 => ?_)
  exact S.iret 4 rfl rfl rfl (Nat.le_refl _) (Nat.le_refl _) rfl
def F_X12_lowOf (l1 : Int32) (I : HI) (J : HJ) : Option Int32 :=
  cp (F_X12_wiresAt l1 (2 : Int32) I J) fun r1 =>
  some r1
set_option maxRecDepth 100000 in
theorem cm_X12_lowOf (b : Bool) (l1 : Int32) (I : HI) (J : HJ) : CM mX12_lowOf 2 0 0 [.ref 81, .int l1] (zs b, I, J) (pI (zs b, I, J)) (F_X12_lowOf l1 I J) := by
  refine S.of okX12_lowOf pn_X12 (Nat.le_of_ble_eq_true rfl) ?_
  refine S.sub (lv' := [(0, .ref 81), (1, .int l1)]) [0, 1] rfl ?_
  unfold F_X12_lowOf
  refine S.aload_n 0 0 rfl rfl ?_
  refine S.iload_n 1 1 rfl rfl ?_
  refine S.iconst (2 : Int32) 2 rfl (by decide) ?_
  refine S.qVI (d := 1) (av := [.int l1, .int (2 : Int32)]) (rs := [.int (2 : Int32), .int l1]) (b := 81) 3 rfl co_X12_377 rfl rfl rfl rfl rfl ⟨⟨Nat.le_of_ble_eq_true rfl, Nat.le_of_ble_eq_true rfl⟩, ⟨Nat.le_of_ble_eq_true rfl, Nat.le_of_ble_eq_true rfl⟩, Nat.le_of_ble_eq_true rfl⟩ (cm_X12_wiresAt b l1 (2 : Int32) I J) (fun r1 => ?_)
  exact S.iret 4 rfl rfl rfl (Nat.le_refl _) (Nat.le_refl _) rfl
def F_X12_findGlow_99_L13 (l3 : Int32) : Nat → Int32 → HI → HJ → Option (Unit × HI × HJ)
  | 0, _, _, _ => none
  | K+1, l4, I, J =>
    if l3 ≤ l4 then
      some ((), I, J)
    else
      cp (F_X12_highOf l4 I J) fun r5 =>
      cp (F_X12_lowOf l4 I J) fun r6 =>
      cl (F_X12_glowing r5 r6 I J) fun r7 I8 J9 =>
      bx l4 2187 <|
      lb (uj J9 m_glow (Int32.toNatClampNeg l4) r7) fun J10 =>
      F_X12_findGlow_99_L13 l3 K (l4 + 1) I8 J10
set_option maxRecDepth 100000 in
theorem s_X12_findGlow_99_L13 (b : Bool) (l3 : Int32) : ∀ (K : Nat) (l4 : Int32) (I : HI) (J : HJ), S (fV (zs b)) mX12_findGlow (rmd 25 0 0) 0 0 (0, 0) 13 [(0, .ref 81), (2, .ref 99), (3, .int l3), (4, .int l4)] [] (zs b, I, J) (F_X12_findGlow_99_L13 l3 K l4 I J) := by
  intro K
  induction K with
  | zero => intro l4 I J; exact S.none
  | succ K ih =>
    intro l4 I J
    rw [F_X12_findGlow_99_L13]
    refine S.iload 8 3 rfl rfl ?_
    refine S.iload_n 9 2 rfl rfl ?_
    refine S.icmp_ge 45 10 rfl (by decide) (fun _ => ?_) (fun _ => ?_)
    · exact S.vret 24 rfl rfl (Nat.le_refl _) (Nat.le_refl _) rfl
    · refine S.aload_n 11 1 rfl rfl ?_
      refine S.iload 12 3 rfl rfl ?_
      refine S.aload_n 13 0 rfl rfl ?_
      refine S.aload_n 14 0 rfl rfl ?_
      refine S.iload 15 3 rfl rfl ?_
      refine S.qVI (d := 2) (av := [.int l4]) (rs := [.int l4]) (b := 81) 16 rfl co_X12_383 rfl rfl rfl rfl rfl ⟨⟨Nat.le_of_ble_eq_true rfl, Nat.le_of_ble_eq_true rfl⟩, ⟨Nat.le_of_ble_eq_true rfl, Nat.le_of_ble_eq_true rfl⟩, Nat.le_of_ble_eq_true rfl⟩ (cm_X12_highOf b l4 I J) (fun r5 => ?_)
      refine S.aload_n 17 0 rfl rfl ?_
      refine S.iload 18 3 rfl rfl ?_
      refine S.qVI (d := 2) (av := [.int l4]) (rs := [.int l4]) (b := 81) 19 rfl co_X12_386 rfl rfl rfl rfl rfl ⟨⟨Nat.le_of_ble_eq_true rfl, Nat.le_of_ble_eq_true rfl⟩, ⟨Nat.le_of_ble_eq_true rfl, Nat.le_of_ble_eq_true rfl⟩, Nat.le_of_ble_eq_true rfl⟩ (cm_X12_lowOf b l4 I J) (fun r6 => ?_)
      refine S.cVL (d := 24) (av := [.int r5, .int r6]) (rs := [.int r6, .int r5]) (b := 81) 20 rfl co_X12_346 rfl rfl rfl rfl rfl ⟨⟨Nat.le_of_ble_eq_true rfl, Nat.le_of_ble_eq_true rfl⟩, ⟨Nat.le_of_ble_eq_true rfl, Nat.le_of_ble_eq_true rfl⟩, Nat.le_of_ble_eq_true rfl⟩ (cm_X12_glowing b r5 r6 I J) (fun r7 I8 J9 => ?_)
      refine S.last 21 rfl rfl (fun J10 => ?_)
      refine S.iinc (l4 + 1) [(4, .int (l4 + 1)), (0, .ref 81), (2, .ref 99), (3, .int l3)] 22 3 rfl rfl rfl (by decide) rfl ?_
      refine S.goto 13 23 rfl (by decide) ?_
      refine S.sub (lv' := [(0, .ref 81), (2, .ref 99), (3, .int l3), (4, .int (l4 + 1))]) [1, 2, 3, 0] rfl ?_
      exact ih _ _ _
def F_X12_findGlow_99 (l1 : Int32) (I : HI) (J : HJ) : Option (Unit × HI × HJ) :=
  cl (F_X12_lay l1 I J) fun _ I2 J3 =>
  cp (F_X12_settings I2 J3) fun r4 =>
  F_X12_findGlow_99_L13 r4 bgf (0 : Int32) I2 J3
set_option maxRecDepth 100000 in
theorem cm_X12_findGlow_99 (b : Bool) (l1 : Int32) (I : HI) (J : HJ) : CM mX12_findGlow 25 0 0 [.ref 81, .int l1, .ref 99] (zs b, I, J) (fV (zs b)) (F_X12_findGlow_99 l1 I J) := by
  refine S.of okX12_findGlow pn_X12 (Nat.le_of_ble_eq_true rfl) ?_
  refine S.sub (lv' := [(0, .ref 81), (1, .int l1), (2, .ref 99)]) [0, 1, 2] rfl ?_
  unfold F_X12_findGlow_99
  refine S.aload_n 0 0 rfl rfl ?_
  refine S.iload_n 1 1 rfl rfl ?_
  refine S.cVV (d := 4) (av := [.int l1]) (rs := [.int l1]) (b := 81) 2 rfl co_X12_343 rfl rfl rfl rfl rfl ⟨⟨Nat.le_of_ble_eq_true rfl, Nat.le_of_ble_eq_true rfl⟩, ⟨Nat.le_of_ble_eq_true rfl, Nat.le_of_ble_eq_true rfl⟩, Nat.le_of_ble_eq_true rfl⟩ (cm_X12_lay b l1 I J) (fun _ I2 J3 => ?_)
  refine S.aload_n 3 0 rfl rfl ?_
  refine S.qVI (d := 1) (av := []) (rs := []) (b := 81) 4 rfl co_X12_380 rfl rfl rfl rfl rfl ⟨⟨Nat.le_of_ble_eq_true rfl, Nat.le_of_ble_eq_true rfl⟩, ⟨Nat.le_of_ble_eq_true rfl, Nat.le_of_ble_eq_true rfl⟩, Nat.le_of_ble_eq_true rfl⟩ (cm_X12_settings b I2 J3) (fun r4 => ?_)
  refine S.istore_n [(3, .int r4), (0, .ref 81), (1, .int l1), (2, .ref 99)] 5 rfl (by decide) rfl ?_
  refine S.iconst (0 : Int32) 6 rfl (by decide) ?_
  refine S.istore [(4, .int (0 : Int32)), (3, .int r4), (0, .ref 81), (1, .int l1), (2, .ref 99)] 7 rfl (by decide) rfl ?_
  refine S.sub (lv' := [(0, .ref 81), (2, .ref 99), (3, .int r4), (4, .int (0 : Int32))]) [2, 4, 1, 0] rfl ?_
  refine s_X12_findGlow_99_L13 b _ bgf _ _ _
def F_X12_findAll_L16 (l1 : Int32) (J : HJ) : Nat → Int32 → HI → Option (Unit × HI × HJ)
  | 0, _, _ => none
  | K+1, l2, I =>
    if l1 ≤ l2 then
      some ((), I, J)
    else
      bx l2 2187 <|
      cp (F_X12_highOf l2 I J) fun r5 =>
      cp (F_X12_lowOf l2 I J) fun r6 =>
      cp (F_X12_askedFor r5 r6 I J) fun r7 =>
      lb (fun (y8 : Int32) (y9 : Int32) =>
      bx y8 2187 <|
      lb (ui I m_isGhostly (Int32.toNatClampNeg y8) (vp_nar .boolean y9)) fun I11 =>
      F_X12_findAll_L16 l1 J K (l2 + 1) I11) fun j10 =>
      if (lg_cmp ((J m_glow (Int32.toNatClampNeg l2)) &&& (r7 ^^^ (-1 : Int64))) (0 : Int64)) = 0 then
        j10 l2 (0 : Int32)
      else
        j10 l2 (1 : Int32)
set_option maxRecDepth 100000 in
theorem s_X12_findAll_L16 (b : Bool) (l1 : Int32) (J : HJ) : ∀ (K : Nat) (l2 : Int32) (I : HI), S (fV (zs b)) mX12_findAll (rmd 26 0 0) 0 0 (0, 0) 16 [(0, .ref 81), (1, .int l1), (2, .int l2)] [] (zs b, I, J) (F_X12_findAll_L16 l1 J K l2 I) := by
  intro K
  induction K with
  | zero => intro l2 I; exact S.none
  | succ K ih =>
    intro l2 I
    rw [F_X12_findAll_L16]
    refine S.iload_n 10 2 rfl rfl ?_
    refine S.iload_n 11 1 rfl rfl ?_
    refine S.icmp_ge 68 12 rfl (by decide) (fun _ => ?_) (fun _ => ?_)
    · exact S.vret 40 rfl rfl (Nat.le_refl _) (Nat.le_refl _) rfl
    · refine S.aload_n 13 0 rfl rfl ?_
      refine S.getR 14 rfl fo_X12_73 rfl rfl rfl ?_
      refine S.iload_n 15 2 rfl rfl ?_
      refine S.aload_n 16 0 rfl rfl ?_
      refine S.getR 17 rfl fo_X12_70 rfl rfl rfl ?_
      refine S.iload_n 18 2 rfl rfl ?_
      refine S.lald 19 rfl rfl ?_
      refine S.aload_n 20 0 rfl rfl ?_
      refine S.aload_n 21 0 rfl rfl ?_
      refine S.iload_n 22 2 rfl rfl ?_
      refine S.qVI (d := 2) (av := [.int l2]) (rs := [.int l2]) (b := 81) 23 rfl co_X12_383 rfl rfl rfl rfl rfl ⟨⟨Nat.le_of_ble_eq_true rfl, Nat.le_of_ble_eq_true rfl⟩, ⟨Nat.le_of_ble_eq_true rfl, Nat.le_of_ble_eq_true rfl⟩, Nat.le_of_ble_eq_true rfl⟩ (cm_X12_highOf b l2 I J) (fun r5 => ?_)
      refine S.aload_n 24 0 rfl rfl ?_
      refine S.iload_n 25 2 rfl rfl ?_
      refine S.qVI (d := 2) (av := [.int l2]) (rs := [.int l2]) (b := 81) 26 rfl co_X12_386 rfl rfl rfl rfl rfl ⟨⟨Nat.le_of_ble_eq_true rfl, Nat.le_of_ble_eq_true rfl⟩, ⟨Nat.le_of_ble_eq_true rfl, Nat.le_of_ble_eq_true rfl⟩, Nat.le_of_ble_eq_true rfl⟩ (cm_X12_lowOf b l2 I J) (fun r6 => ?_)
      refine S.qVL (d := 2) (av := [.int r5, .int r6]) (rs := [.int r6, .int r5]) (b := 81) 27 rfl co_X12_363 rfl rfl rfl rfl rfl ⟨⟨Nat.le_of_ble_eq_true rfl, Nat.le_of_ble_eq_true rfl⟩, ⟨Nat.le_of_ble_eq_true rfl, Nat.le_of_ble_eq_true rfl⟩, Nat.le_of_ble_eq_true rfl⟩ (cm_X12_askedFor b r5 r6 I J) (fun r7 => ?_)
      refine S.ldc2 (-1 : Int64) 28 rfl ko_X12_366 ?_
      refine S.lxor 29 rfl ?_
      refine S.land 30 rfl ?_
      refine S.lconst (0 : Int64) 31 rfl (by decide) ?_
      refine S.lcmp 32 rfl ?_
      refine S.jn (fun j => ∀ (y8 : Int32) (y9 : Int32), S (fV (zs b)) mX12_findAll (rmd 26 0 0) 0 0 (0, 0) 61 [(0, .ref 81), (1, .int l1), (2, .int l2)] [.int y9, .int y8, .ref 100] (zs b, I, J) (j y8 y9)) (fun y8 y9 => ?_) (fun j10 hj10 => ?_)
      · refine S.zast 37 rfl rfl (fun I11 => ?_)
        refine S.iinc (l2 + 1) [(2, .int (l2 + 1)), (0, .ref 81), (1, .int l1)] 38 2 rfl rfl rfl (by decide) rfl ?_
        refine S.goto 16 39 rfl (by decide) ?_
        refine S.sub (lv' := [(0, .ref 81), (1, .int l1), (2, .int (l2 + 1))]) [1, 2, 0] rfl ?_
        exact ih _ _
      · refine S.if_eq 60 33 rfl (by decide) (fun _ => ?_) (fun _ => ?_)
        · refine S.iconst (0 : Int32) 36 rfl (by decide) ?_
          exact hj10 _ _
        · refine S.iconst (1 : Int32) 34 rfl (by decide) ?_
          refine S.goto 61 35 rfl (by decide) ?_
          exact hj10 _ _
def F_X12_findAll  (I : HI) (J : HJ) : Option (Unit × HI × HJ) :=
  cl (F_X12_findGlow_99 (0 : Int32) I J) fun _ I2 J3 =>
  cp (F_X12_settings I2 J3) fun r4 =>
  F_X12_findAll_L16 r4 J3 bgf (0 : Int32) I2
set_option maxRecDepth 100000 in
theorem cm_X12_findAll (b : Bool)  (I : HI) (J : HJ) : CM mX12_findAll 26 0 0 [.ref 81] (zs b, I, J) (fV (zs b)) (F_X12_findAll  I J) := by
  refine S.of okX12_findAll pn_X12 (Nat.le_of_ble_eq_true rfl) ?_
  refine S.sub (lv' := [(0, .ref 81)]) [0] rfl ?_
  unfold F_X12_findAll
  refine S.aload_n 0 0 rfl rfl ?_
  refine S.iconst (0 : Int32) 1 rfl (by decide) ?_
  refine S.aload_n 2 0 rfl rfl ?_
  refine S.getR 3 rfl fo_X12_70 rfl rfl rfl ?_
  refine S.cVV (d := 25) (av := [.int (0 : Int32), .ref 99]) (rs := [.ref 99, .int (0 : Int32)]) (b := 81) 4 rfl co_X12_389 rfl rfl rfl rfl rfl ⟨⟨Nat.le_of_ble_eq_true rfl, Nat.le_of_ble_eq_true rfl⟩, ⟨Nat.le_of_ble_eq_true rfl, Nat.le_of_ble_eq_true rfl⟩, Nat.le_of_ble_eq_true rfl⟩ (cm_X12_findGlow_99 b (0 : Int32) I J) (fun _ I2 J3 => ?_)
  refine S.aload_n 5 0 rfl rfl ?_
  refine S.qVI (d := 1) (av := []) (rs := []) (b := 81) 6 rfl co_X12_380 rfl rfl rfl rfl rfl ⟨⟨Nat.le_of_ble_eq_true rfl, Nat.le_of_ble_eq_true rfl⟩, ⟨Nat.le_of_ble_eq_true rfl, Nat.le_of_ble_eq_true rfl⟩, Nat.le_of_ble_eq_true rfl⟩ (cm_X12_settings b I2 J3) (fun r4 => ?_)
  refine S.istore_n [(1, .int r4), (0, .ref 81)] 7 rfl (by decide) rfl ?_
  refine S.iconst (0 : Int32) 8 rfl (by decide) ?_
  refine S.istore_n [(2, .int (0 : Int32)), (1, .int r4), (0, .ref 81)] 9 rfl (by decide) rfl ?_
  refine S.sub (lv' := [(0, .ref 81), (1, .int r4), (2, .int (0 : Int32))]) [2, 1, 0] rfl ?_
  refine s_X12_findAll_L16 b _ _ bgf _ _
def F_X12_shows_L43 (l1 : Int64) (I : HI) (J : HJ) (kx75 : Int32 → Int32 → Option (Int32 × HI × HJ)) : Nat → Int32 → Int32 → Int32 → Option (Int32 × HI × HJ)
  | 0, _, _, _ => none
  | K+1, l3, l4, l5 =>
    if l5 < 0 then
      kx75 l3 l4
    else
      bx l5 2187 <|
      lb (fun (y11 : Int32) (y12 : Int32) =>
      F_X12_shows_L43 l1 I J kx75 K y11 y12 (l5 + (-1))) fun j13 =>
      if (lg_cmp (J m_glow (Int32.toNatClampNeg l5)) l1) = 0 then
        j13 l5 (l4 + 1)
      else
        j13 l3 l4
set_option maxRecDepth 100000 in
theorem s_X12_shows_L43 (b : Bool) (l1 : Int64) (I : HI) (J : HJ) (kx75 : Int32 → Int32 → Option (Int32 × HI × HJ)) (hkx75 : ∀ (y3 : Int32) (y4 : Int32), S (fI (zs b)) mX12_shows (rmd 27 0 0) 0 0 (0, 0) 75 [(0, .ref 81), (3, .int y3), (4, .int y4)] [] (zs b, I, J) (kx75 y3 y4)) : ∀ (K : Nat) (l3 : Int32) (l4 : Int32) (l5 : Int32), S (fI (zs b)) mX12_shows (rmd 27 0 0) 0 0 (0, 0) 43 [(0, .ref 81), (1, .long l1), (3, .int l3), (4, .int l4), (5, .int l5)] [] (zs b, I, J) (F_X12_shows_L43 l1 I J kx75 K l3 l4 l5) := by
  intro K
  induction K with
  | zero => intro l3 l4 l5; exact S.none
  | succ K ih =>
    intro l3 l4 l5
    rw [F_X12_shows_L43]
    refine S.iload 25 4 rfl rfl ?_
    refine S.if_lt 75 26 rfl (by decide) (fun _ => ?_) (fun _ => ?_)
    · refine S.sub (lv' := [(0, .ref 81), (3, .int l3), (4, .int l4)]) [0, 2, 3] rfl ?_
      exact hkx75 _ _
    · refine S.aload_n 27 0 rfl rfl ?_
      refine S.getR 28 rfl fo_X12_70 rfl rfl rfl ?_
      refine S.iload 29 4 rfl rfl ?_
      refine S.lald 30 rfl rfl ?_
      refine S.lload_n 31 1 rfl rfl ?_
      refine S.lcmp 32 rfl ?_
      refine S.jn (fun j => ∀ (y11 : Int32) (y12 : Int32), S (fI (zs b)) mX12_shows (rmd 27 0 0) 0 0 (0, 0) 69 [(0, .ref 81), (1, .long l1), (3, .int y11), (4, .int y12), (5, .int l5)] [] (zs b, I, J) (j y11 y12)) (fun y11 y12 => ?_) (fun j13 hj13 => ?_)
      · refine S.iinc (l5 + (-1)) [(5, .int (l5 + (-1))), (0, .ref 81), (1, .long l1), (3, .int y11), (4, .int y12)] 38 4 rfl rfl rfl (by decide) rfl ?_
        refine S.goto 43 39 rfl (by decide) ?_
        refine S.sub (lv' := [(0, .ref 81), (1, .long l1), (3, .int y11), (4, .int y12), (5, .int (l5 + (-1)))]) [1, 2, 3, 4, 0] rfl ?_
        exact ih _ _ _
      · refine S.if_eq 63 33 rfl (by decide) (fun _ => ?_) (fun _ => ?_)
        · refine S.iload 35 4 rfl rfl ?_
          refine S.istore_n [(3, .int l5), (0, .ref 81), (1, .long l1), (4, .int l4), (5, .int l5)] 36 rfl (by decide) rfl ?_
          refine S.iinc (l4 + 1) [(4, .int (l4 + 1)), (3, .int l5), (0, .ref 81), (1, .long l1), (5, .int l5)] 37 3 rfl rfl rfl (by decide) rfl ?_
          refine S.sub (lv' := [(0, .ref 81), (1, .long l1), (3, .int l5), (4, .int (l4 + 1)), (5, .int l5)]) [2, 3, 1, 0, 4] rfl ?_
          exact hj13 _ _
        · refine S.goto 69 34 rfl (by decide) ?_
          exact hj13 _ _
def F_X12_shows (l1 : Int64) (I : HI) (J : HJ) : Option (Int32 × HI × HJ) :=
  lb (ui I m_self f_Model_thrown (0 : Int32)) fun I4 =>
  cp (F_X12_areLamps l1 I4 J) fun r5 =>
  if r5 = 0 then
    some ((-1 : Int32), I4, J)
  else
    cp (F_X12_canSearch I4 J) fun r6 =>
    if r6 = 0 then
      some ((-3 : Int32), I4, J)
    else
      cl (F_X12_findAll I4 J) fun _ I7 J8 =>
      cp (F_X12_settings I7 J8) fun r9 =>
      lb ((r9 - (1 : Int32))) fun x10 =>
      F_X12_shows_L43 l1 I7 J8 (fun (y14 : Int32) (y15 : Int32) =>
      if 0 ≤ y14 then
        lb (ui I7 m_self f_Model_rowMany (0 : Int32)) fun I16 =>
        cp (F_X12_highOf y14 I16 J8) fun r17 =>
        cl (F_X12_tell (Int32.toInt64 r17) I16 J8) fun _ I18 J19 =>
        cp (F_X12_lowOf y14 I18 J19) fun r20 =>
        cl (F_X12_tell (Int32.toInt64 r20) I18 J19) fun _ I21 J22 =>
        cl (F_X12_tell (Int32.toInt64 y15) I21 J22) fun _ I23 J24 =>
        some (y14, I23, J24)
      else
        some ((-2 : Int32), I7, J8)) bgf (-2 : Int32) (0 : Int32) x10
set_option maxRecDepth 100000 in
theorem cm_X12_shows (b : Bool) (l1 : Int64) (I : HI) (J : HJ) : CM mX12_shows 27 0 0 [.ref 81, .long l1] (zs b, I, J) (fI (zs b)) (F_X12_shows l1 I J) := by
  refine S.of okX12_shows pn_X12 (Nat.le_of_ble_eq_true rfl) ?_
  refine S.sub (lv' := [(0, .ref 81), (1, .long l1)]) [0, 1] rfl ?_
  unfold F_X12_shows
  refine S.aload_n 0 0 rfl rfl ?_
  refine S.iconst (0 : Int32) 1 rfl (by decide) ?_
  refine S.putI 2 rfl fo_X12_159 rfl rfl rfl rfl (fun _ hq => by cases hq; exact Or.inl rfl) (fun I4 => ?_)
  refine S.aload_n 3 0 rfl rfl ?_
  refine S.lload_n 4 1 rfl rfl ?_
  refine S.qVI (d := 2) (av := [.long l1]) (rs := [.long l1]) (b := 81) 5 rfl co_X12_393 rfl rfl rfl rfl rfl ⟨⟨Nat.le_of_ble_eq_true rfl, Nat.le_of_ble_eq_true rfl⟩, ⟨Nat.le_of_ble_eq_true rfl, Nat.le_of_ble_eq_true rfl⟩, Nat.le_of_ble_eq_true rfl⟩ (cm_X12_areLamps b l1 I4 J) (fun r5 => ?_)
  refine S.if_ne 15 6 rfl (by decide) (fun _ => ?_) (fun _ => ?_)
  · refine S.aload_n 9 0 rfl rfl ?_
    refine S.qVI (d := 1) (av := []) (rs := []) (b := 81) 10 rfl co_X12_397 rfl rfl rfl rfl rfl ⟨⟨Nat.le_of_ble_eq_true rfl, Nat.le_of_ble_eq_true rfl⟩, ⟨Nat.le_of_ble_eq_true rfl, Nat.le_of_ble_eq_true rfl⟩, Nat.le_of_ble_eq_true rfl⟩ (cm_X12_canSearch b I4 J) (fun r6 => ?_)
    refine S.if_ne 25 11 rfl (by decide) (fun _ => ?_) (fun _ => ?_)
    · refine S.aload_n 14 0 rfl rfl ?_
      refine S.cVV (d := 26) (av := []) (rs := []) (b := 81) 15 rfl co_X12_401 rfl rfl rfl rfl rfl ⟨⟨Nat.le_of_ble_eq_true rfl, Nat.le_of_ble_eq_true rfl⟩, ⟨Nat.le_of_ble_eq_true rfl, Nat.le_of_ble_eq_true rfl⟩, Nat.le_of_ble_eq_true rfl⟩ (cm_X12_findAll b I4 J) (fun _ I7 J8 => ?_)
      refine S.bipush (-2 : Int32) 16 rfl (by decide) ?_
      refine S.istore_n [(3, .int (-2 : Int32)), (0, .ref 81), (1, .long l1)] 17 rfl (by decide) rfl ?_
      refine S.iconst (0 : Int32) 18 rfl (by decide) ?_
      refine S.istore [(4, .int (0 : Int32)), (3, .int (-2 : Int32)), (0, .ref 81), (1, .long l1)] 19 rfl (by decide) rfl ?_
      refine S.aload_n 20 2 rfl rfl ?_
      refine S.qVI (d := 1) (av := []) (rs := []) (b := 81) 21 rfl co_X12_380 rfl rfl rfl rfl rfl ⟨⟨Nat.le_of_ble_eq_true rfl, Nat.le_of_ble_eq_true rfl⟩, ⟨Nat.le_of_ble_eq_true rfl, Nat.le_of_ble_eq_true rfl⟩, Nat.le_of_ble_eq_true rfl⟩ (cm_X12_settings b I7 J8) (fun r9 => ?_)
      refine S.iconst (1 : Int32) 22 rfl (by decide) ?_
      refine S.isub 23 rfl ?_
      refine S.nmi (fun x10 => ?_)
      refine S.istore [(5, .int x10), (4, .int (0 : Int32)), (3, .int (-2 : Int32)), (0, .ref 81), (1, .long l1)] 24 rfl (by decide) rfl ?_
      refine S.sub (lv' := [(0, .ref 81), (1, .long l1), (3, .int (-2 : Int32)), (4, .int (0 : Int32)), (5, .int x10)]) [3, 4, 2, 1, 0] rfl ?_
      refine s_X12_shows_L43 b _ _ _ _ (fun y14 y15 => ?_) bgf _ _ _
      refine S.iload_n 40 1 rfl rfl ?_
      refine S.if_ge 82 41 rfl (by decide) (fun _ => ?_) (fun _ => ?_)
      · refine S.aload_n 44 0 rfl rfl ?_
        refine S.iconst (0 : Int32) 45 rfl (by decide) ?_
        refine S.putI 46 rfl fo_X12_162 rfl rfl rfl rfl (fun _ hq => by cases hq; exact Or.inl rfl) (fun I16 => ?_)
        refine S.aload_n 47 0 rfl rfl ?_
        refine S.aload_n 48 0 rfl rfl ?_
        refine S.iload_n 49 1 rfl rfl ?_
        refine S.qVI (d := 2) (av := [.int y14]) (rs := [.int y14]) (b := 81) 50 rfl co_X12_383 rfl rfl rfl rfl rfl ⟨⟨Nat.le_of_ble_eq_true rfl, Nat.le_of_ble_eq_true rfl⟩, ⟨Nat.le_of_ble_eq_true rfl, Nat.le_of_ble_eq_true rfl⟩, Nat.le_of_ble_eq_true rfl⟩ (cm_X12_highOf b y14 I16 J8) (fun r17 => ?_)
        refine S.i2l 51 rfl ?_
        refine S.cVV (d := 1) (av := [.long (Int32.toInt64 r17)]) (rs := [.long (Int32.toInt64 r17)]) (b := 81) 52 rfl co_X12_371 rfl rfl rfl rfl rfl ⟨⟨Nat.le_of_ble_eq_true rfl, Nat.le_of_ble_eq_true rfl⟩, ⟨Nat.le_of_ble_eq_true rfl, Nat.le_of_ble_eq_true rfl⟩, Nat.le_of_ble_eq_true rfl⟩ (cm_X12_tell b (Int32.toInt64 r17) I16 J8) (fun _ I18 J19 => ?_)
        refine S.aload_n 53 0 rfl rfl ?_
        refine S.aload_n 54 0 rfl rfl ?_
        refine S.iload_n 55 1 rfl rfl ?_
        refine S.qVI (d := 2) (av := [.int y14]) (rs := [.int y14]) (b := 81) 56 rfl co_X12_386 rfl rfl rfl rfl rfl ⟨⟨Nat.le_of_ble_eq_true rfl, Nat.le_of_ble_eq_true rfl⟩, ⟨Nat.le_of_ble_eq_true rfl, Nat.le_of_ble_eq_true rfl⟩, Nat.le_of_ble_eq_true rfl⟩ (cm_X12_lowOf b y14 I18 J19) (fun r20 => ?_)
        refine S.i2l 57 rfl ?_
        refine S.cVV (d := 1) (av := [.long (Int32.toInt64 r20)]) (rs := [.long (Int32.toInt64 r20)]) (b := 81) 58 rfl co_X12_371 rfl rfl rfl rfl rfl ⟨⟨Nat.le_of_ble_eq_true rfl, Nat.le_of_ble_eq_true rfl⟩, ⟨Nat.le_of_ble_eq_true rfl, Nat.le_of_ble_eq_true rfl⟩, Nat.le_of_ble_eq_true rfl⟩ (cm_X12_tell b (Int32.toInt64 r20) I18 J19) (fun _ I21 J22 => ?_)
        refine S.aload_n 59 0 rfl rfl ?_
        refine S.iload 60 2 rfl rfl ?_
        refine S.i2l 61 rfl ?_
        refine S.cVV (d := 1) (av := [.long (Int32.toInt64 y15)]) (rs := [.long (Int32.toInt64 y15)]) (b := 81) 62 rfl co_X12_371 rfl rfl rfl rfl rfl ⟨⟨Nat.le_of_ble_eq_true rfl, Nat.le_of_ble_eq_true rfl⟩, ⟨Nat.le_of_ble_eq_true rfl, Nat.le_of_ble_eq_true rfl⟩, Nat.le_of_ble_eq_true rfl⟩ (cm_X12_tell b (Int32.toInt64 y15) I21 J22) (fun _ I23 J24 => ?_)
        refine S.iload_n 63 1 rfl rfl ?_
        exact S.iret 64 rfl rfl rfl (Nat.le_refl _) (Nat.le_refl _) rfl
      · refine S.bipush (-2 : Int32) 42 rfl (by decide) ?_
        exact S.iret 43 rfl rfl rfl (Nat.le_refl _) (Nat.le_refl _) rfl
    · refine S.bipush (-3 : Int32) 12 rfl (by decide) ?_
      exact S.iret 13 rfl rfl rfl (Nat.le_refl _) (Nat.le_refl _) rfl
  · refine S.iconst (-1 : Int32) 7 rfl (by decide) ?_
    exact S.iret 8 rfl rfl rfl (Nat.le_refl _) (Nat.le_refl _) rfl
def F_X12_bars_L37 (l1 : Int64) (I : HI) (J : HJ) (kx106 : Int32 → Int32 → Option (Int32 × HI × HJ)) : Nat → Int32 → Int32 → Int32 → Option (Int32 × HI × HJ)
  | 0, _, _, _ => none
  | K+1, l3, l4, l5 =>
    cp (F_X12_settings I J) fun r8 =>
    if r8 ≤ l5 then
      kx106 l3 l4
    else
      bx l5 2187 <|
      cp (F_J13_bitCount_95d88 ((J m_glow (Int32.toNatClampNeg l5)) &&& (l1 ^^^ (-1 : Int64)))) fun r9 =>
      bx l5 2187 <|
      lb (fun (y10 : Int32) (y11 : Int32) =>
      F_X12_bars_L37 l1 I J kx106 K y10 y11 (l5 + 1)) fun j12 =>
      if (lg_cmp ((J m_glow (Int32.toNatClampNeg l5)) &&& l1) l1) = 0 then
        lb (
        j12 l5 r9) fun j13 =>
        if l3 = (-1 : Int32) then
          j13
        else
          if r9 < l4 then
            j13
          else
            j12 l3 l4
      else
        j12 l3 l4
set_option maxRecDepth 100000 in
theorem s_X12_bars_L37 (b : Bool) (l1 : Int64) (I : HI) (J : HJ) (kx106 : Int32 → Int32 → Option (Int32 × HI × HJ)) (hkx106 : ∀ (y3 : Int32) (y4 : Int32), S (fI (zs b)) mX12_bars (rmd 27 0 0) 0 0 (0, 0) 106 [(0, .ref 81), (1, .long l1), (3, .int y3), (4, .int y4)] [] (zs b, I, J) (kx106 y3 y4)) : ∀ (K : Nat) (l3 : Int32) (l4 : Int32) (l5 : Int32), S (fI (zs b)) mX12_bars (rmd 27 0 0) 0 0 (0, 0) 37 [(0, .ref 81), (1, .long l1), (3, .int l3), (4, .int l4), (5, .int l5)] [] (zs b, I, J) (F_X12_bars_L37 l1 I J kx106 K l3 l4 l5) := by
  intro K
  induction K with
  | zero => intro l3 l4 l5; exact S.none
  | succ K ih =>
    intro l3 l4 l5
    rw [F_X12_bars_L37]
    refine S.iload 22 4 rfl rfl ?_
    refine S.aload_n 23 0 rfl rfl ?_
    refine S.qVI (d := 1) (av := []) (rs := []) (b := 81) 24 rfl co_X12_380 rfl rfl rfl rfl rfl ⟨⟨Nat.le_of_ble_eq_true rfl, Nat.le_of_ble_eq_true rfl⟩, ⟨Nat.le_of_ble_eq_true rfl, Nat.le_of_ble_eq_true rfl⟩, Nat.le_of_ble_eq_true rfl⟩ (cm_X12_settings b I J) (fun r8 => ?_)
    refine S.icmp_ge 106 25 rfl (by decide) (fun _ => ?_) (fun _ => ?_)
    · refine S.sub (lv' := [(0, .ref 81), (1, .long l1), (3, .int l3), (4, .int l4)]) [0, 1, 2, 3] rfl ?_
      exact hkx106 _ _
    · refine S.aload_n 26 0 rfl rfl ?_
      refine S.getR 27 rfl fo_X12_70 rfl rfl rfl ?_
      refine S.iload 28 4 rfl rfl ?_
      refine S.lald 29 rfl rfl ?_
      refine S.lload_n 30 1 rfl rfl ?_
      refine S.ldc2 (-1 : Int64) 31 rfl ko_X12_366 ?_
      refine S.lxor 32 rfl ?_
      refine S.land 33 rfl ?_
      refine S.qSI (d := 1) (av := [.long ((J m_glow (Int32.toNatClampNeg l5)) &&& (l1 ^^^ (-1 : Int64)))]) (rs := [.long ((J m_glow (Int32.toNatClampNeg l5)) &&& (l1 ^^^ (-1 : Int64)))]) 34 rfl co_X12_357 rfl rfl ⟨⟨Nat.le_of_ble_eq_true rfl, Nat.le_of_ble_eq_true rfl⟩, ⟨Nat.le_of_ble_eq_true rfl, Nat.le_of_ble_eq_true rfl⟩, Nat.le_of_ble_eq_true rfl⟩ (cm_J13_bitCount_95d88 (zs b, I, J) ((J m_glow (Int32.toNatClampNeg l5)) &&& (l1 ^^^ (-1 : Int64)))) (fun r9 => ?_)
      refine S.istore [(6, .int r9), (0, .ref 81), (1, .long l1), (3, .int l3), (4, .int l4), (5, .int l5)] 35 rfl (by decide) rfl ?_
      refine S.aload_n 36 1 rfl rfl ?_
      refine S.getR 37 rfl fo_X12_70 rfl rfl rfl ?_
      refine S.iload 38 5 rfl rfl ?_
      refine S.lald 39 rfl rfl ?_
      refine S.lload_n 40 2 rfl rfl ?_
      refine S.land 41 rfl ?_
      refine S.lload_n 42 2 rfl rfl ?_
      refine S.lcmp 43 rfl ?_
      refine S.jn (fun j => ∀ (y10 : Int32) (y11 : Int32), S (fI (zs b)) mX12_bars (rmd 27 0 0) 0 0 (0, 0) 100 [(0, .ref 81), (1, .long l1), (3, .int y10), (4, .int y11), (5, .int l5)] [] (zs b, I, J) (j y10 y11)) (fun y10 y11 => ?_) (fun j12 hj12 => ?_)
      · refine S.iinc (l5 + 1) [(5, .int (l5 + 1)), (0, .ref 81), (1, .long l1), (3, .int y10), (4, .int y11)] 56 4 rfl rfl rfl (by decide) rfl ?_
        refine S.goto 37 57 rfl (by decide) ?_
        refine S.sub (lv' := [(0, .ref 81), (1, .long l1), (3, .int y10), (4, .int y11), (5, .int (l5 + 1))]) [1, 2, 3, 4, 0] rfl ?_
        exact ih _ _ _
      · refine S.if_ne 100 44 rfl (by decide) (fun _ => ?_) (fun _ => ?_)
        · refine S.sub (lv' := [(0, .ref 81), (1, .long l1), (3, .int l3), (4, .int l4), (5, .int l5)]) [1, 2, 3, 4, 5] rfl ?_
          exact hj12 _ _
        · refine S.iload_n 45 3 rfl rfl ?_
          refine S.iconst (-1 : Int32) 46 rfl (by decide) ?_
          refine S.jn (fun j => S (fI (zs b)) mX12_bars (rmd 27 0 0) 0 0 (0, 0) 93 [(0, .ref 81), (1, .long l1), (5, .int l5), (6, .int r9)] [] (zs b, I, J) (j)) ?_ (fun j13 hj13 => ?_)
          · refine S.iload 52 2 rfl rfl ?_
            refine S.istore_n [(3, .int l5), (0, .ref 81), (1, .long l1), (5, .int l5), (6, .int r9)] 53 rfl (by decide) rfl ?_
            refine S.iload 54 4 rfl rfl ?_
            refine S.istore [(4, .int r9), (3, .int l5), (0, .ref 81), (1, .long l1), (5, .int l5), (6, .int r9)] 55 rfl (by decide) rfl ?_
            refine S.sub (lv' := [(0, .ref 81), (1, .long l1), (3, .int l5), (4, .int r9), (5, .int l5)]) [2, 3, 1, 0, 4] rfl ?_
            exact hj12 _ _
          · refine S.icmp_eq 93 47 rfl (by decide) (fun _ => ?_) (fun _ => ?_)
            · refine S.sub (lv' := [(0, .ref 81), (1, .long l1), (5, .int l5), (6, .int r9)]) [1, 2, 5, 0] rfl ?_
              exact hj13
            · refine S.iload 48 0 rfl rfl ?_
              refine S.iload 49 4 rfl rfl ?_
              refine S.icmp_lt 93 50 rfl (by decide) (fun _ => ?_) (fun _ => ?_)
              · refine S.sub (lv' := [(0, .ref 81), (1, .long l1), (5, .int l5), (6, .int r9)]) [1, 2, 5, 0] rfl ?_
                exact hj13
              · refine S.goto 100 51 rfl (by decide) ?_
                refine S.sub (lv' := [(0, .ref 81), (1, .long l1), (3, .int l3), (4, .int l4), (5, .int l5)]) [1, 2, 3, 4, 5] rfl ?_
                exact hj12 _ _
def F_X12_bars (l1 : Int64) (I : HI) (J : HJ) : Option (Int32 × HI × HJ) :=
  lb (ui I m_self f_Model_thrown (0 : Int32)) fun I3 =>
  cp (F_X12_areLamps l1 I3 J) fun r4 =>
  if r4 = 0 then
    some ((-1 : Int32), I3, J)
  else
    cp (F_X12_canSearch I3 J) fun r5 =>
    if r5 = 0 then
      some ((-3 : Int32), I3, J)
    else
      cl (F_X12_findAll I3 J) fun _ I6 J7 =>
      F_X12_bars_L37 l1 I6 J7 (fun (y14 : Int32) (y15 : Int32) =>
      if y14 = (-1 : Int32) then
        some ((-2 : Int32), I6, J7)
      else
        lb (ui I6 m_self f_Model_rowMany (0 : Int32)) fun I16 =>
        cl (F_X12_tell (Int32.toInt64 y14) I16 J7) fun _ I17 J18 =>
        lb (fun (y19 : Int64) =>
        cl (F_X12_tell y19 I17 J18) fun _ I21 J22 =>
        some (y15, I21, J22)) fun j20 =>
        if y15 = 0 then
          j20 (-1 : Int64)
        else
          bx y14 2187 <|
          cp (F_J13_numberOfTrailingZeros_95d88 ((J18 m_glow (Int32.toNatClampNeg y14)) &&& (l1 ^^^ (-1 : Int64)))) fun r23 =>
          j20 (Int32.toInt64 r23)) bgf (-1 : Int32) (0 : Int32) (0 : Int32)
set_option maxRecDepth 100000 in
theorem cm_X12_bars (b : Bool) (l1 : Int64) (I : HI) (J : HJ) : CM mX12_bars 27 0 0 [.ref 81, .long l1] (zs b, I, J) (fI (zs b)) (F_X12_bars l1 I J) := by
  refine S.of okX12_bars pn_X12 (Nat.le_of_ble_eq_true rfl) ?_
  refine S.sub (lv' := [(0, .ref 81), (1, .long l1)]) [0, 1] rfl ?_
  unfold F_X12_bars
  refine S.aload_n 0 0 rfl rfl ?_
  refine S.iconst (0 : Int32) 1 rfl (by decide) ?_
  refine S.putI 2 rfl fo_X12_159 rfl rfl rfl rfl (fun _ hq => by cases hq; exact Or.inl rfl) (fun I3 => ?_)
  refine S.aload_n 3 0 rfl rfl ?_
  refine S.lload_n 4 1 rfl rfl ?_
  refine S.qVI (d := 2) (av := [.long l1]) (rs := [.long l1]) (b := 81) 5 rfl co_X12_393 rfl rfl rfl rfl rfl ⟨⟨Nat.le_of_ble_eq_true rfl, Nat.le_of_ble_eq_true rfl⟩, ⟨Nat.le_of_ble_eq_true rfl, Nat.le_of_ble_eq_true rfl⟩, Nat.le_of_ble_eq_true rfl⟩ (cm_X12_areLamps b l1 I3 J) (fun r4 => ?_)
  refine S.if_ne 15 6 rfl (by decide) (fun _ => ?_) (fun _ => ?_)
  · refine S.aload_n 9 0 rfl rfl ?_
    refine S.qVI (d := 1) (av := []) (rs := []) (b := 81) 10 rfl co_X12_397 rfl rfl rfl rfl rfl ⟨⟨Nat.le_of_ble_eq_true rfl, Nat.le_of_ble_eq_true rfl⟩, ⟨Nat.le_of_ble_eq_true rfl, Nat.le_of_ble_eq_true rfl⟩, Nat.le_of_ble_eq_true rfl⟩ (cm_X12_canSearch b I3 J) (fun r5 => ?_)
    refine S.if_ne 25 11 rfl (by decide) (fun _ => ?_) (fun _ => ?_)
    · refine S.aload_n 14 0 rfl rfl ?_
      refine S.cVV (d := 26) (av := []) (rs := []) (b := 81) 15 rfl co_X12_401 rfl rfl rfl rfl rfl ⟨⟨Nat.le_of_ble_eq_true rfl, Nat.le_of_ble_eq_true rfl⟩, ⟨Nat.le_of_ble_eq_true rfl, Nat.le_of_ble_eq_true rfl⟩, Nat.le_of_ble_eq_true rfl⟩ (cm_X12_findAll b I3 J) (fun _ I6 J7 => ?_)
      refine S.iconst (-1 : Int32) 16 rfl (by decide) ?_
      refine S.istore_n [(3, .int (-1 : Int32)), (0, .ref 81), (1, .long l1)] 17 rfl (by decide) rfl ?_
      refine S.iconst (0 : Int32) 18 rfl (by decide) ?_
      refine S.istore [(4, .int (0 : Int32)), (3, .int (-1 : Int32)), (0, .ref 81), (1, .long l1)] 19 rfl (by decide) rfl ?_
      refine S.iconst (0 : Int32) 20 rfl (by decide) ?_
      refine S.istore [(5, .int (0 : Int32)), (4, .int (0 : Int32)), (3, .int (-1 : Int32)), (0, .ref 81), (1, .long l1)] 21 rfl (by decide) rfl ?_
      refine S.sub (lv' := [(0, .ref 81), (1, .long l1), (3, .int (-1 : Int32)), (4, .int (0 : Int32)), (5, .int (0 : Int32))]) [3, 4, 2, 1, 0] rfl ?_
      refine s_X12_bars_L37 b _ _ _ _ (fun y14 y15 => ?_) bgf _ _ _
      refine S.iload_n 58 2 rfl rfl ?_
      refine S.iconst (-1 : Int32) 59 rfl (by decide) ?_
      refine S.icmp_ne 114 60 rfl (by decide) (fun _ => ?_) (fun _ => ?_)
      · refine S.aload_n 63 0 rfl rfl ?_
        refine S.iconst (0 : Int32) 64 rfl (by decide) ?_
        refine S.putI 65 rfl fo_X12_162 rfl rfl rfl rfl (fun _ hq => by cases hq; exact Or.inl rfl) (fun I16 => ?_)
        refine S.aload_n 66 0 rfl rfl ?_
        refine S.iload_n 67 2 rfl rfl ?_
        refine S.i2l 68 rfl ?_
        refine S.cVV (d := 1) (av := [.long (Int32.toInt64 y14)]) (rs := [.long (Int32.toInt64 y14)]) (b := 81) 69 rfl co_X12_371 rfl rfl rfl rfl rfl ⟨⟨Nat.le_of_ble_eq_true rfl, Nat.le_of_ble_eq_true rfl⟩, ⟨Nat.le_of_ble_eq_true rfl, Nat.le_of_ble_eq_true rfl⟩, Nat.le_of_ble_eq_true rfl⟩ (cm_X12_tell b (Int32.toInt64 y14) I16 J7) (fun _ I17 J18 => ?_)
        refine S.aload_n 70 0 rfl rfl ?_
        refine S.iload 71 3 rfl rfl ?_
        refine S.jn (fun j => ∀ (y19 : Int64), S (fI (zs b)) mX12_bars (rmd 27 0 0) 0 0 (0, 0) 153 [(4, .int y15)] [.long y19, .ref 81] (zs b, I17, J18) (j y19)) (fun y19 => ?_) (fun j20 hj20 => ?_)
        · refine S.cVV (d := 1) (av := [.long y19]) (rs := [.long y19]) (b := 81) 85 rfl co_X12_371 rfl rfl rfl rfl rfl ⟨⟨Nat.le_of_ble_eq_true rfl, Nat.le_of_ble_eq_true rfl⟩, ⟨Nat.le_of_ble_eq_true rfl, Nat.le_of_ble_eq_true rfl⟩, Nat.le_of_ble_eq_true rfl⟩ (cm_X12_tell b y19 I17 J18) (fun _ I21 J22 => ?_)
          refine S.iload 86 0 rfl rfl ?_
          exact S.iret 87 rfl rfl rfl (Nat.le_refl _) (Nat.le_refl _) rfl
        · refine S.if_ne 137 72 rfl (by decide) (fun _ => ?_) (fun _ => ?_)
          · refine S.aload_n 75 0 rfl rfl ?_
            refine S.getR 76 rfl fo_X12_70 rfl rfl rfl ?_
            refine S.iload_n 77 2 rfl rfl ?_
            refine S.lald 78 rfl rfl ?_
            refine S.lload_n 79 1 rfl rfl ?_
            refine S.ldc2 (-1 : Int64) 80 rfl ko_X12_366 ?_
            refine S.lxor 81 rfl ?_
            refine S.land 82 rfl ?_
            refine S.qSI (d := 2) (av := [.long ((J18 m_glow (Int32.toNatClampNeg y14)) &&& (l1 ^^^ (-1 : Int64)))]) (rs := [.long ((J18 m_glow (Int32.toNatClampNeg y14)) &&& (l1 ^^^ (-1 : Int64)))]) 83 rfl co_X12_404 rfl rfl ⟨⟨Nat.le_of_ble_eq_true rfl, Nat.le_of_ble_eq_true rfl⟩, ⟨Nat.le_of_ble_eq_true rfl, Nat.le_of_ble_eq_true rfl⟩, Nat.le_of_ble_eq_true rfl⟩ (cm_J13_numberOfTrailingZeros_95d88 (zs b, I17, J18) ((J18 m_glow (Int32.toNatClampNeg y14)) &&& (l1 ^^^ (-1 : Int64)))) (fun r23 => ?_)
            refine S.i2l 84 rfl ?_
            refine S.sub (lv' := [(4, .int y15)]) [3] rfl ?_
            exact hj20 _
          · refine S.ldc2 (-1 : Int64) 73 rfl ko_X12_366 ?_
            refine S.goto 153 74 rfl (by decide) ?_
            refine S.sub (lv' := [(4, .int y15)]) [3] rfl ?_
            exact hj20 _
      · refine S.bipush (-2 : Int32) 61 rfl (by decide) ?_
        exact S.iret 62 rfl rfl rfl (Nat.le_refl _) (Nat.le_refl _) rfl
    · refine S.bipush (-3 : Int32) 12 rfl (by decide) ?_
      exact S.iret 13 rfl rfl rfl (Nat.le_refl _) (Nat.le_refl _) rfl
  · refine S.iconst (-1 : Int32) 7 rfl (by decide) ?_
    exact S.iret 8 rfl rfl rfl (Nat.le_refl _) (Nat.le_refl _) rfl
def F_X12_most_L25 (I : HI) (J : HJ) (kx81 : Int32 → Int32 → Option (Int32 × HI × HJ)) : Nat → Int32 → Int32 → Int32 → Option (Int32 × HI × HJ)
  | 0, _, _, _ => none
  | K+1, l1, l2, l3 =>
    cp (F_X12_settings I J) fun r7 =>
    if r7 ≤ l3 then
      kx81 l1 l2
    else
      bx l3 2187 <|
      lb (fun (y8 : Int32) (y9 : Int32) =>
      F_X12_most_L25 I J kx81 K y8 y9 (l3 + 1)) fun j10 =>
      if (I m_isGhostly (Int32.toNatClampNeg l3)) = 0 then
        lb (
        bx l3 2187 <|
        cp (F_J13_bitCount_95d88 (J m_glow (Int32.toNatClampNeg l3))) fun r12 =>
        j10 l3 r12) fun j11 =>
        if l1 = (-1 : Int32) then
          j11
        else
          bx l3 2187 <|
          cp (F_J13_bitCount_95d88 (J m_glow (Int32.toNatClampNeg l3))) fun r13 =>
          if l2 < r13 then
            j11
          else
            j10 l1 l2
      else
        j10 l1 l2
set_option maxRecDepth 100000 in
theorem s_X12_most_L25 (b : Bool) (I : HI) (J : HJ) (kx81 : Int32 → Int32 → Option (Int32 × HI × HJ)) (hkx81 : ∀ (y1 : Int32) (y2 : Int32), S (fI (zs b)) mX12_most (rmd 27 0 0) 0 0 (0, 0) 81 [(0, .ref 81), (1, .int y1), (2, .int y2)] [] (zs b, I, J) (kx81 y1 y2)) : ∀ (K : Nat) (l1 : Int32) (l2 : Int32) (l3 : Int32), S (fI (zs b)) mX12_most (rmd 27 0 0) 0 0 (0, 0) 25 [(0, .ref 81), (1, .int l1), (2, .int l2), (3, .int l3)] [] (zs b, I, J) (F_X12_most_L25 I J kx81 K l1 l2 l3) := by
  intro K
  induction K with
  | zero => intro l1 l2 l3; exact S.none
  | succ K ih =>
    intro l1 l2 l3
    rw [F_X12_most_L25]
    refine S.iload_n 16 3 rfl rfl ?_
    refine S.aload_n 17 0 rfl rfl ?_
    refine S.qVI (d := 1) (av := []) (rs := []) (b := 81) 18 rfl co_X12_380 rfl rfl rfl rfl rfl ⟨⟨Nat.le_of_ble_eq_true rfl, Nat.le_of_ble_eq_true rfl⟩, ⟨Nat.le_of_ble_eq_true rfl, Nat.le_of_ble_eq_true rfl⟩, Nat.le_of_ble_eq_true rfl⟩ (cm_X12_settings b I J) (fun r7 => ?_)
    refine S.icmp_ge 81 19 rfl (by decide) (fun _ => ?_) (fun _ => ?_)
    · refine S.sub (lv' := [(0, .ref 81), (1, .int l1), (2, .int l2)]) [0, 1, 2] rfl ?_
      exact hkx81 _ _
    · refine S.aload_n 20 0 rfl rfl ?_
      refine S.getR 21 rfl fo_X12_73 rfl rfl rfl ?_
      refine S.iload_n 22 3 rfl rfl ?_
      refine S.zald 23 rfl rfl ?_
      refine S.jn (fun j => ∀ (y8 : Int32) (y9 : Int32), S (fI (zs b)) mX12_most (rmd 27 0 0) 0 0 (0, 0) 75 [(0, .ref 81), (1, .int y8), (2, .int y9), (3, .int l3)] [] (zs b, I, J) (j y8 y9)) (fun y8 y9 => ?_) (fun j10 hj10 => ?_)
      · refine S.iinc (l3 + 1) [(3, .int (l3 + 1)), (0, .ref 81), (1, .int y8), (2, .int y9)] 44 3 rfl rfl rfl (by decide) rfl ?_
        refine S.goto 25 45 rfl (by decide) ?_
        refine S.sub (lv' := [(0, .ref 81), (1, .int y8), (2, .int y9), (3, .int (l3 + 1))]) [1, 2, 3, 0] rfl ?_
        exact ih _ _ _
      · refine S.if_ne 75 24 rfl (by decide) (fun _ => ?_) (fun _ => ?_)
        · exact hj10 _ _
        · refine S.iload_n 25 1 rfl rfl ?_
          refine S.iconst (-1 : Int32) 26 rfl (by decide) ?_
          refine S.jn (fun j => S (fI (zs b)) mX12_most (rmd 27 0 0) 0 0 (0, 0) 63 [(0, .ref 81), (3, .int l3)] [] (zs b, I, J) (j)) ?_ (fun j11 hj11 => ?_)
          · refine S.iload_n 36 1 rfl rfl ?_
            refine S.istore_n [(1, .int l3), (0, .ref 81), (3, .int l3)] 37 rfl (by decide) rfl ?_
            refine S.aload_n 38 1 rfl rfl ?_
            refine S.getR 39 rfl fo_X12_70 rfl rfl rfl ?_
            refine S.iload_n 40 2 rfl rfl ?_
            refine S.lald 41 rfl rfl ?_
            refine S.qSI (d := 1) (av := [.long (J m_glow (Int32.toNatClampNeg l3))]) (rs := [.long (J m_glow (Int32.toNatClampNeg l3))]) 42 rfl co_X12_357 rfl rfl ⟨⟨Nat.le_of_ble_eq_true rfl, Nat.le_of_ble_eq_true rfl⟩, ⟨Nat.le_of_ble_eq_true rfl, Nat.le_of_ble_eq_true rfl⟩, Nat.le_of_ble_eq_true rfl⟩ (cm_J13_bitCount_95d88 (zs b, I, J) (J m_glow (Int32.toNatClampNeg l3))) (fun r12 => ?_)
            refine S.istore_n [(2, .int r12), (1, .int l3), (0, .ref 81), (3, .int l3)] 43 rfl (by decide) rfl ?_
            refine S.sub (lv' := [(0, .ref 81), (1, .int l3), (2, .int r12), (3, .int l3)]) [2, 1, 0, 3] rfl ?_
            exact hj10 _ _
          · refine S.icmp_eq 63 27 rfl (by decide) (fun _ => ?_) (fun _ => ?_)
            · refine S.sub (lv' := [(0, .ref 81), (3, .int l3)]) [0, 3] rfl ?_
              exact hj11
            · refine S.aload_n 28 0 rfl rfl ?_
              refine S.getR 29 rfl fo_X12_70 rfl rfl rfl ?_
              refine S.iload_n 30 3 rfl rfl ?_
              refine S.lald 31 rfl rfl ?_
              refine S.qSI (d := 1) (av := [.long (J m_glow (Int32.toNatClampNeg l3))]) (rs := [.long (J m_glow (Int32.toNatClampNeg l3))]) 32 rfl co_X12_357 rfl rfl ⟨⟨Nat.le_of_ble_eq_true rfl, Nat.le_of_ble_eq_true rfl⟩, ⟨Nat.le_of_ble_eq_true rfl, Nat.le_of_ble_eq_true rfl⟩, Nat.le_of_ble_eq_true rfl⟩ (cm_J13_bitCount_95d88 (zs b, I, J) (J m_glow (Int32.toNatClampNeg l3))) (fun r13 => ?_)
              refine S.iload_n 33 2 rfl rfl ?_
              refine S.icmp_gt 63 34 rfl (by decide) (fun _ => ?_) (fun _ => ?_)
              · refine S.sub (lv' := [(0, .ref 81), (3, .int l3)]) [0, 3] rfl ?_
                exact hj11
              · refine S.goto 75 35 rfl (by decide) ?_
                exact hj10 _ _
def F_X12_most  (I : HI) (J : HJ) : Option (Int32 × HI × HJ) :=
  lb (ui I m_self f_Model_thrown (0 : Int32)) fun I3 =>
  cp (F_X12_canSearch I3 J) fun r4 =>
  if r4 = 0 then
    some ((-3 : Int32), I3, J)
  else
    cl (F_X12_findAll I3 J) fun _ I5 J6 =>
    F_X12_most_L25 I5 J6 (fun (y14 : Int32) (y15 : Int32) =>
    lb (ui I5 m_self f_Model_rowMany (0 : Int32)) fun I16 =>
    cl (F_X12_tell (Int32.toInt64 y14) I16 J6) fun _ I17 J18 =>
    some (y15, I17, J18)) bgf (-1 : Int32) (0 : Int32) (0 : Int32)
set_option maxRecDepth 100000 in
theorem cm_X12_most (b : Bool)  (I : HI) (J : HJ) : CM mX12_most 27 0 0 [.ref 81] (zs b, I, J) (fI (zs b)) (F_X12_most  I J) := by
  refine S.of okX12_most pn_X12 (Nat.le_of_ble_eq_true rfl) ?_
  refine S.sub (lv' := [(0, .ref 81)]) [0] rfl ?_
  unfold F_X12_most
  refine S.aload_n 0 0 rfl rfl ?_
  refine S.iconst (0 : Int32) 1 rfl (by decide) ?_
  refine S.putI 2 rfl fo_X12_159 rfl rfl rfl rfl (fun _ hq => by cases hq; exact Or.inl rfl) (fun I3 => ?_)
  refine S.aload_n 3 0 rfl rfl ?_
  refine S.qVI (d := 1) (av := []) (rs := []) (b := 81) 4 rfl co_X12_397 rfl rfl rfl rfl rfl ⟨⟨Nat.le_of_ble_eq_true rfl, Nat.le_of_ble_eq_true rfl⟩, ⟨Nat.le_of_ble_eq_true rfl, Nat.le_of_ble_eq_true rfl⟩, Nat.le_of_ble_eq_true rfl⟩ (cm_X12_canSearch b I3 J) (fun r4 => ?_)
  refine S.if_ne 15 5 rfl (by decide) (fun _ => ?_) (fun _ => ?_)
  · refine S.aload_n 8 0 rfl rfl ?_
    refine S.cVV (d := 26) (av := []) (rs := []) (b := 81) 9 rfl co_X12_401 rfl rfl rfl rfl rfl ⟨⟨Nat.le_of_ble_eq_true rfl, Nat.le_of_ble_eq_true rfl⟩, ⟨Nat.le_of_ble_eq_true rfl, Nat.le_of_ble_eq_true rfl⟩, Nat.le_of_ble_eq_true rfl⟩ (cm_X12_findAll b I3 J) (fun _ I5 J6 => ?_)
    refine S.iconst (-1 : Int32) 10 rfl (by decide) ?_
    refine S.istore_n [(1, .int (-1 : Int32)), (0, .ref 81)] 11 rfl (by decide) rfl ?_
    refine S.iconst (0 : Int32) 12 rfl (by decide) ?_
    refine S.istore_n [(2, .int (0 : Int32)), (1, .int (-1 : Int32)), (0, .ref 81)] 13 rfl (by decide) rfl ?_
    refine S.iconst (0 : Int32) 14 rfl (by decide) ?_
    refine S.istore_n [(3, .int (0 : Int32)), (2, .int (0 : Int32)), (1, .int (-1 : Int32)), (0, .ref 81)] 15 rfl (by decide) rfl ?_
    refine S.sub (lv' := [(0, .ref 81), (1, .int (-1 : Int32)), (2, .int (0 : Int32)), (3, .int (0 : Int32))]) [3, 2, 1, 0] rfl ?_
    refine s_X12_most_L25 b _ _ _ (fun y14 y15 => ?_) bgf _ _ _
    refine S.aload_n 46 0 rfl rfl ?_
    refine S.iconst (0 : Int32) 47 rfl (by decide) ?_
    refine S.putI 48 rfl fo_X12_162 rfl rfl rfl rfl (fun _ hq => by cases hq; exact Or.inl rfl) (fun I16 => ?_)
    refine S.aload_n 49 0 rfl rfl ?_
    refine S.iload_n 50 1 rfl rfl ?_
    refine S.i2l 51 rfl ?_
    refine S.cVV (d := 1) (av := [.long (Int32.toInt64 y14)]) (rs := [.long (Int32.toInt64 y14)]) (b := 81) 52 rfl co_X12_371 rfl rfl rfl rfl rfl ⟨⟨Nat.le_of_ble_eq_true rfl, Nat.le_of_ble_eq_true rfl⟩, ⟨Nat.le_of_ble_eq_true rfl, Nat.le_of_ble_eq_true rfl⟩, Nat.le_of_ble_eq_true rfl⟩ (cm_X12_tell b (Int32.toInt64 y14) I16 J6) (fun _ I17 J18 => ?_)
    refine S.iload_n 53 2 rfl rfl ?_
    exact S.iret 54 rfl rfl rfl (Nat.le_refl _) (Nat.le_refl _) rfl
  · refine S.bipush (-3 : Int32) 6 rfl (by decide) ?_
    exact S.iret 7 rfl rfl rfl (Nat.le_refl _) (Nat.le_refl _) rfl
def F_X12_sets_L55 (l1 : Int32) (l2 : Int32) (l3 : Int32) (l5 : Int32) (I : HI) (J : HJ) (kx96 : Int32 → Option (Int32 × HI × HJ)) : Nat → Int32 → Int32 → Option (Int32 × HI × HJ)
  | 0, _, _ => none
  | K+1, l4, l6 =>
    if l3 ≤ l6 then
      kx96 l4
    else
      if l4 = 0 then
        kx96 l4
      else
        bx l6 2187 <|
        bx l3 2187 <|
        lb (fun (y12 : Int32) =>
        F_X12_sets_L55 l1 l2 l3 l5 I J kx96 K y12 (l6 + 1)) fun j13 =>
        if (lg_cmp (J m_glow (Int32.toNatClampNeg l6)) (J m_glow (Int32.toNatClampNeg l3))) = 0 then
          j13 (0 : Int32)
        else
          j13 (1 : Int32)
set_option maxRecDepth 100000 in
theorem s_X12_sets_L55 (b : Bool) (l1 : Int32) (l2 : Int32) (l3 : Int32) (l5 : Int32) (I : HI) (J : HJ) (kx96 : Int32 → Option (Int32 × HI × HJ)) (hkx96 : ∀ (y4 : Int32), S (fI (zs b)) mX12_sets (rmd 27 0 0) 0 0 (0, 0) 96 [(0, .ref 81), (1, .int l1), (2, .int l2), (3, .int l3), (4, .int y4), (5, .int l5)] [] (zs b, I, J) (kx96 y4)) : ∀ (K : Nat) (l4 : Int32) (l6 : Int32), S (fI (zs b)) mX12_sets (rmd 27 0 0) 0 0 (0, 0) 55 [(0, .ref 81), (1, .int l1), (2, .int l2), (3, .int l3), (4, .int l4), (5, .int l5), (6, .int l6)] [] (zs b, I, J) (F_X12_sets_L55 l1 l2 l3 l5 I J kx96 K l4 l6) := by
  intro K
  induction K with
  | zero => intro l4 l6; exact S.none
  | succ K ih =>
    intro l4 l6
    rw [F_X12_sets_L55]
    refine S.iload 33 6 rfl rfl ?_
    refine S.iload_n 34 3 rfl rfl ?_
    refine S.icmp_ge 96 35 rfl (by decide) (fun _ => ?_) (fun _ => ?_)
    · refine S.sub (lv' := [(0, .ref 81), (1, .int l1), (2, .int l2), (3, .int l3), (4, .int l4), (5, .int l5)]) [0, 1, 2, 3, 4, 5] rfl ?_
      exact hkx96 _
    · refine S.iload 36 4 rfl rfl ?_
      refine S.if_eq 96 37 rfl (by decide) (fun _ => ?_) (fun _ => ?_)
      · refine S.sub (lv' := [(0, .ref 81), (1, .int l1), (2, .int l2), (3, .int l3), (4, .int l4), (5, .int l5)]) [0, 1, 2, 3, 4, 5] rfl ?_
        exact hkx96 _
      · refine S.aload_n 38 0 rfl rfl ?_
        refine S.getR 39 rfl fo_X12_70 rfl rfl rfl ?_
        refine S.iload 40 6 rfl rfl ?_
        refine S.lald 41 rfl rfl ?_
        refine S.aload_n 42 0 rfl rfl ?_
        refine S.getR 43 rfl fo_X12_70 rfl rfl rfl ?_
        refine S.iload_n 44 3 rfl rfl ?_
        refine S.lald 45 rfl rfl ?_
        refine S.lcmp 46 rfl ?_
        refine S.jn (fun j => ∀ (y12 : Int32), S (fI (zs b)) mX12_sets (rmd 27 0 0) 0 0 (0, 0) 88 [(0, .ref 81), (1, .int l1), (2, .int l2), (3, .int l3), (5, .int l5), (6, .int l6)] [.int y12] (zs b, I, J) (j y12)) (fun y12 => ?_) (fun j13 hj13 => ?_)
        · refine S.istore [(4, .int y12), (0, .ref 81), (1, .int l1), (2, .int l2), (3, .int l3), (5, .int l5), (6, .int l6)] 51 rfl (by decide) rfl ?_
          refine S.iinc (l6 + 1) [(6, .int (l6 + 1)), (4, .int y12), (0, .ref 81), (1, .int l1), (2, .int l2), (3, .int l3), (5, .int l5)] 52 6 rfl rfl rfl (by decide) rfl ?_
          refine S.goto 55 53 rfl (by decide) ?_
          refine S.sub (lv' := [(0, .ref 81), (1, .int l1), (2, .int l2), (3, .int l3), (4, .int y12), (5, .int l5), (6, .int (l6 + 1))]) [2, 3, 4, 5, 1, 6, 0] rfl ?_
          exact ih _ _
        · refine S.if_eq 87 47 rfl (by decide) (fun _ => ?_) (fun _ => ?_)
          · refine S.iconst (0 : Int32) 50 rfl (by decide) ?_
            refine S.sub (lv' := [(0, .ref 81), (1, .int l1), (2, .int l2), (3, .int l3), (5, .int l5), (6, .int l6)]) [0, 1, 2, 3, 5, 6] rfl ?_
            exact hj13 _
          · refine S.iconst (1 : Int32) 48 rfl (by decide) ?_
            refine S.goto 88 49 rfl (by decide) ?_
            refine S.sub (lv' := [(0, .ref 81), (1, .int l1), (2, .int l2), (3, .int l3), (5, .int l5), (6, .int l6)]) [0, 1, 2, 3, 5, 6] rfl ?_
            exact hj13 _
def F_X12_sets_L109 (l1 : Int32) (l2 : Int32) (l3 : Int32) (I : HI) (J : HJ) (kx163 : Int32 → Option (Int32 × HI × HJ)) : Nat → Int32 → Int32 → Option (Int32 × HI × HJ)
  | 0, _, _ => none
  | K+1, l5, l6 =>
    cp (F_X12_settings I J) fun r19 =>
    if r19 ≤ l6 then
      kx163 l5
    else
      if l5 = 0 then
        bx l6 2187 <|
        bx l3 2187 <|
        lb (fun (y20 : Int32) =>
        F_X12_sets_L109 l1 l2 l3 I J kx163 K y20 (l6 + 1)) fun j21 =>
        lb (
        j21 (0 : Int32)) fun j22 =>
        if (lg_cmp (J m_glow (Int32.toNatClampNeg l6)) (J m_glow (Int32.toNatClampNeg l3))) = 0 then
          bx l6 2187 <|
          if (I m_isGhostly (Int32.toNatClampNeg l6)) = 0 then
            j21 (1 : Int32)
          else
            j22
        else
          j22
      else
        kx163 l5
set_option maxRecDepth 100000 in
theorem s_X12_sets_L109 (b : Bool) (l1 : Int32) (l2 : Int32) (l3 : Int32) (I : HI) (J : HJ) (kx163 : Int32 → Option (Int32 × HI × HJ)) (hkx163 : ∀ (y5 : Int32), S (fI (zs b)) mX12_sets (rmd 27 0 0) 0 0 (0, 0) 163 [(0, .ref 81), (1, .int l1), (2, .int l2), (3, .int l3), (5, .int y5)] [] (zs b, I, J) (kx163 y5)) : ∀ (K : Nat) (l5 : Int32) (l6 : Int32), S (fI (zs b)) mX12_sets (rmd 27 0 0) 0 0 (0, 0) 109 [(0, .ref 81), (1, .int l1), (2, .int l2), (3, .int l3), (5, .int l5), (6, .int l6)] [] (zs b, I, J) (F_X12_sets_L109 l1 l2 l3 I J kx163 K l5 l6) := by
  intro K
  induction K with
  | zero => intro l5 l6; exact S.none
  | succ K ih =>
    intro l5 l6
    rw [F_X12_sets_L109]
    refine S.iload 61 5 rfl rfl ?_
    refine S.aload_n 62 0 rfl rfl ?_
    refine S.qVI (d := 1) (av := []) (rs := []) (b := 81) 63 rfl co_X12_380 rfl rfl rfl rfl rfl ⟨⟨Nat.le_of_ble_eq_true rfl, Nat.le_of_ble_eq_true rfl⟩, ⟨Nat.le_of_ble_eq_true rfl, Nat.le_of_ble_eq_true rfl⟩, Nat.le_of_ble_eq_true rfl⟩ (cm_X12_settings b I J) (fun r19 => ?_)
    refine S.icmp_ge 163 64 rfl (by decide) (fun _ => ?_) (fun _ => ?_)
    · refine S.sub (lv' := [(0, .ref 81), (1, .int l1), (2, .int l2), (3, .int l3), (5, .int l5)]) [0, 1, 2, 3, 4] rfl ?_
      exact hkx163 _
    · refine S.iload 65 4 rfl rfl ?_
      refine S.if_ne 163 66 rfl (by decide) (fun _ => ?_) (fun _ => ?_)
      · refine S.sub (lv' := [(0, .ref 81), (1, .int l1), (2, .int l2), (3, .int l3), (5, .int l5)]) [0, 1, 2, 3, 4] rfl ?_
        exact hkx163 _
      · refine S.aload_n 67 0 rfl rfl ?_
        refine S.getR 68 rfl fo_X12_70 rfl rfl rfl ?_
        refine S.iload 69 5 rfl rfl ?_
        refine S.lald 70 rfl rfl ?_
        refine S.aload_n 71 0 rfl rfl ?_
        refine S.getR 72 rfl fo_X12_70 rfl rfl rfl ?_
        refine S.iload_n 73 3 rfl rfl ?_
        refine S.lald 74 rfl rfl ?_
        refine S.lcmp 75 rfl ?_
        refine S.jn (fun j => ∀ (y20 : Int32), S (fI (zs b)) mX12_sets (rmd 27 0 0) 0 0 (0, 0) 155 [(0, .ref 81), (1, .int l1), (2, .int l2), (3, .int l3), (6, .int l6)] [.int y20] (zs b, I, J) (j y20)) (fun y20 => ?_) (fun j21 hj21 => ?_)
        · refine S.istore [(5, .int y20), (0, .ref 81), (1, .int l1), (2, .int l2), (3, .int l3), (6, .int l6)] 85 rfl (by decide) rfl ?_
          refine S.iinc (l6 + 1) [(6, .int (l6 + 1)), (5, .int y20), (0, .ref 81), (1, .int l1), (2, .int l2), (3, .int l3)] 86 5 rfl rfl rfl (by decide) rfl ?_
          refine S.goto 109 87 rfl (by decide) ?_
          refine S.sub (lv' := [(0, .ref 81), (1, .int l1), (2, .int l2), (3, .int l3), (5, .int y20), (6, .int (l6 + 1))]) [2, 3, 4, 5, 1, 0] rfl ?_
          exact ih _ _
        · refine S.jn (fun j => S (fI (zs b)) mX12_sets (rmd 27 0 0) 0 0 (0, 0) 154 [(0, .ref 81), (1, .int l1), (2, .int l2), (3, .int l3), (6, .int l6)] [] (zs b, I, J) (j)) ?_ (fun j22 hj22 => ?_)
          · refine S.iconst (0 : Int32) 84 rfl (by decide) ?_
            exact hj21 _
          · refine S.if_ne 154 76 rfl (by decide) (fun _ => ?_) (fun _ => ?_)
            · refine S.sub (lv' := [(0, .ref 81), (1, .int l1), (2, .int l2), (3, .int l3), (6, .int l6)]) [0, 1, 2, 3, 5] rfl ?_
              exact hj22
            · refine S.aload_n 77 0 rfl rfl ?_
              refine S.getR 78 rfl fo_X12_73 rfl rfl rfl ?_
              refine S.iload 79 5 rfl rfl ?_
              refine S.zald 80 rfl rfl ?_
              refine S.if_ne 154 81 rfl (by decide) (fun _ => ?_) (fun _ => ?_)
              · refine S.sub (lv' := [(0, .ref 81), (1, .int l1), (2, .int l2), (3, .int l3), (6, .int l6)]) [0, 1, 2, 3, 5] rfl ?_
                exact hj22
              · refine S.iconst (1 : Int32) 82 rfl (by decide) ?_
                refine S.goto 155 83 rfl (by decide) ?_
                refine S.sub (lv' := [(0, .ref 81), (1, .int l1), (2, .int l2), (3, .int l3), (6, .int l6)]) [0, 1, 2, 3, 5] rfl ?_
                exact hj21 _
def F_X12_sets_L25 (I : HI) (J : HJ) (kx185 : Int32 → Int32 → Option (Int32 × HI × HJ)) : Nat → Int32 → Int32 → Int32 → Option (Int32 × HI × HJ)
  | 0, _, _, _ => none
  | K+1, l1, l2, l3 =>
    cp (F_X12_settings I J) fun r9 =>
    if r9 ≤ l3 then
      kx185 l1 l2
    else
      bx l3 2187 <|
      lb (fun (y10 : Int32) =>
      F_X12_sets_L55 l1 l2 l3 y10 I J (fun (y14 : Int32) =>
      lb (fun (y15 : Int32) (y16 : Int32) =>
      F_X12_sets_L25 I J kx185 K y15 y16 (l3 + 1)) fun j17 =>
      if y14 = 0 then
        j17 l1 l2
      else
        lb ((l3 + (1 : Int32))) fun x18 =>
        F_X12_sets_L109 l1 l2 l3 I J (fun (y23 : Int32) =>
        lb (fun (y24 : Int32) (y25 : Int32) =>
        lb ((y24 + y25)) fun x27 =>
        j17 (l1 + 1) x27) fun j26 =>
        if y23 = 0 then
          j26 l2 (0 : Int32)
        else
          j26 l2 (1 : Int32)) bgf y10 x18) bgf (1 : Int32) (0 : Int32)) fun j11 =>
      if (I m_isGhostly (Int32.toNatClampNeg l3)) = 0 then
        j11 (1 : Int32)
      else
        j11 (0 : Int32)
set_option maxRecDepth 100000 in
theorem s_X12_sets_L25 (b : Bool) (I : HI) (J : HJ) (kx185 : Int32 → Int32 → Option (Int32 × HI × HJ)) (hkx185 : ∀ (y1 : Int32) (y2 : Int32), S (fI (zs b)) mX12_sets (rmd 27 0 0) 0 0 (0, 0) 185 [(0, .ref 81), (1, .int y1), (2, .int y2)] [] (zs b, I, J) (kx185 y1 y2)) : ∀ (K : Nat) (l1 : Int32) (l2 : Int32) (l3 : Int32), S (fI (zs b)) mX12_sets (rmd 27 0 0) 0 0 (0, 0) 25 [(0, .ref 81), (1, .int l1), (2, .int l2), (3, .int l3)] [] (zs b, I, J) (F_X12_sets_L25 I J kx185 K l1 l2 l3) := by
  intro K
  induction K with
  | zero => intro l1 l2 l3; exact S.none
  | succ K ih =>
    intro l1 l2 l3
    rw [F_X12_sets_L25]
    refine S.iload_n 16 3 rfl rfl ?_
    refine S.aload_n 17 0 rfl rfl ?_
    refine S.qVI (d := 1) (av := []) (rs := []) (b := 81) 18 rfl co_X12_380 rfl rfl rfl rfl rfl ⟨⟨Nat.le_of_ble_eq_true rfl, Nat.le_of_ble_eq_true rfl⟩, ⟨Nat.le_of_ble_eq_true rfl, Nat.le_of_ble_eq_true rfl⟩, Nat.le_of_ble_eq_true rfl⟩ (cm_X12_settings b I J) (fun r9 => ?_)
    refine S.icmp_ge 185 19 rfl (by decide) (fun _ => ?_) (fun _ => ?_)
    · refine S.sub (lv' := [(0, .ref 81), (1, .int l1), (2, .int l2)]) [0, 1, 2] rfl ?_
      exact hkx185 _ _
    · refine S.iconst (1 : Int32) 20 rfl (by decide) ?_
      refine S.istore [(4, .int (1 : Int32)), (0, .ref 81), (1, .int l1), (2, .int l2), (3, .int l3)] 21 rfl (by decide) rfl ?_
      refine S.aload_n 22 1 rfl rfl ?_
      refine S.getR 23 rfl fo_X12_73 rfl rfl rfl ?_
      refine S.iload_n 24 4 rfl rfl ?_
      refine S.zald 25 rfl rfl ?_
      refine S.jn (fun j => ∀ (y10 : Int32), S (fI (zs b)) mX12_sets (rmd 27 0 0) 0 0 (0, 0) 50 [(0, .ref 81), (1, .int l1), (2, .int l2), (3, .int l3), (4, .int (1 : Int32))] [.int y10] (zs b, I, J) (j y10)) (fun y10 => ?_) (fun j11 hj11 => ?_)
      · refine S.istore [(5, .int y10), (0, .ref 81), (1, .int l1), (2, .int l2), (3, .int l3), (4, .int (1 : Int32))] 30 rfl (by decide) rfl ?_
        refine S.iconst (0 : Int32) 31 rfl (by decide) ?_
        refine S.istore [(6, .int (0 : Int32)), (5, .int y10), (0, .ref 81), (1, .int l1), (2, .int l2), (3, .int l3), (4, .int (1 : Int32))] 32 rfl (by decide) rfl ?_
        refine S.sub (lv' := [(0, .ref 81), (1, .int l1), (2, .int l2), (3, .int l3), (4, .int (1 : Int32)), (5, .int y10), (6, .int (0 : Int32))]) [2, 3, 4, 5, 6, 1, 0] rfl ?_
        refine s_X12_sets_L55 b _ _ _ _ _ _ _ (fun y14 => ?_) bgf _ _
        refine S.iload 54 4 rfl rfl ?_
        refine S.jn (fun j => ∀ (y15 : Int32) (y16 : Int32), S (fI (zs b)) mX12_sets (rmd 27 0 0) 0 0 (0, 0) 179 [(0, .ref 81), (1, .int y15), (2, .int y16), (3, .int l3)] [] (zs b, I, J) (j y15 y16)) (fun y15 y16 => ?_) (fun j17 hj17 => ?_)
        · refine S.iinc (l3 + 1) [(3, .int (l3 + 1)), (0, .ref 81), (1, .int y15), (2, .int y16)] 97 3 rfl rfl rfl (by decide) rfl ?_
          refine S.goto 25 98 rfl (by decide) ?_
          refine S.sub (lv' := [(0, .ref 81), (1, .int y15), (2, .int y16), (3, .int (l3 + 1))]) [1, 2, 3, 0] rfl ?_
          exact ih _ _ _
        · refine S.if_ne 104 55 rfl (by decide) (fun _ => ?_) (fun _ => ?_)
          · refine S.iload_n 57 3 rfl rfl ?_
            refine S.iconst (1 : Int32) 58 rfl (by decide) ?_
            refine S.iadd 59 rfl ?_
            refine S.nmi (fun x18 => ?_)
            refine S.istore [(6, .int x18), (0, .ref 81), (1, .int l1), (2, .int l2), (3, .int l3), (4, .int y14), (5, .int y10)] 60 rfl (by decide) rfl ?_
            refine S.sub (lv' := [(0, .ref 81), (1, .int l1), (2, .int l2), (3, .int l3), (5, .int y10), (6, .int x18)]) [1, 2, 3, 4, 6, 0] rfl ?_
            refine s_X12_sets_L109 b _ _ _ _ _ _ (fun y23 => ?_) bgf _ _
            refine S.iinc (l1 + 1) [(1, .int (l1 + 1)), (0, .ref 81), (2, .int l2), (3, .int l3), (5, .int y23)] 88 1 rfl rfl rfl (by decide) rfl ?_
            refine S.iload_n 89 2 rfl rfl ?_
            refine S.iload 90 4 rfl rfl ?_
            refine S.jn (fun j => ∀ (y24 : Int32) (y25 : Int32), S (fI (zs b)) mX12_sets (rmd 27 0 0) 0 0 (0, 0) 177 [(0, .ref 81), (1, .int (l1 + 1)), (3, .int l3)] [.int y25, .int y24] (zs b, I, J) (j y24 y25)) (fun y24 y25 => ?_) (fun j26 hj26 => ?_)
            · refine S.iadd 95 rfl ?_
              refine S.nmi (fun x27 => ?_)
              refine S.istore_n [(2, .int x27), (0, .ref 81), (1, .int (l1 + 1)), (3, .int l3)] 96 rfl (by decide) rfl ?_
              refine S.sub (lv' := [(0, .ref 81), (1, .int (l1 + 1)), (2, .int x27), (3, .int l3)]) [1, 2, 0, 3] rfl ?_
              exact hj17 _ _
            · refine S.if_eq 176 91 rfl (by decide) (fun _ => ?_) (fun _ => ?_)
              · refine S.iconst (0 : Int32) 94 rfl (by decide) ?_
                refine S.sub (lv' := [(0, .ref 81), (1, .int (l1 + 1)), (3, .int l3)]) [1, 0, 3] rfl ?_
                exact hj26 _ _
              · refine S.iconst (1 : Int32) 92 rfl (by decide) ?_
                refine S.goto 177 93 rfl (by decide) ?_
                refine S.sub (lv' := [(0, .ref 81), (1, .int (l1 + 1)), (3, .int l3)]) [1, 0, 3] rfl ?_
                exact hj26 _ _
          · refine S.goto 179 56 rfl (by decide) ?_
            refine S.sub (lv' := [(0, .ref 81), (1, .int l1), (2, .int l2), (3, .int l3)]) [0, 1, 2, 3] rfl ?_
            exact hj17 _ _
      · refine S.if_ne 49 26 rfl (by decide) (fun _ => ?_) (fun _ => ?_)
        · refine S.iconst (0 : Int32) 29 rfl (by decide) ?_
          refine S.sub (lv' := [(0, .ref 81), (1, .int l1), (2, .int l2), (3, .int l3), (4, .int (1 : Int32))]) [1, 2, 3, 4, 0] rfl ?_
          exact hj11 _
        · refine S.iconst (1 : Int32) 27 rfl (by decide) ?_
          refine S.goto 50 28 rfl (by decide) ?_
          refine S.sub (lv' := [(0, .ref 81), (1, .int l1), (2, .int l2), (3, .int l3), (4, .int (1 : Int32))]) [1, 2, 3, 4, 0] rfl ?_
          exact hj11 _
def F_X12_sets  (I : HI) (J : HJ) : Option (Int32 × HI × HJ) :=
  lb (ui I m_self f_Model_thrown (0 : Int32)) fun I5 =>
  cp (F_X12_canSearch I5 J) fun r6 =>
  if r6 = 0 then
    some ((-3 : Int32), I5, J)
  else
    cl (F_X12_findAll I5 J) fun _ I7 J8 =>
    F_X12_sets_L25 I7 J8 (fun (y28 : Int32) (y29 : Int32) =>
    lb (ui I7 m_self f_Model_rowMany (0 : Int32)) fun I30 =>
    cl (F_X12_tell (Int32.toInt64 y29) I30 J8) fun _ I31 J32 =>
    some (y28, I31, J32)) bgf (0 : Int32) (0 : Int32) (0 : Int32)
set_option maxRecDepth 100000 in
theorem cm_X12_sets (b : Bool)  (I : HI) (J : HJ) : CM mX12_sets 27 0 0 [.ref 81] (zs b, I, J) (fI (zs b)) (F_X12_sets  I J) := by
  refine S.of okX12_sets pn_X12 (Nat.le_of_ble_eq_true rfl) ?_
  refine S.sub (lv' := [(0, .ref 81)]) [0] rfl ?_
  unfold F_X12_sets
  refine S.aload_n 0 0 rfl rfl ?_
  refine S.iconst (0 : Int32) 1 rfl (by decide) ?_
  refine S.putI 2 rfl fo_X12_159 rfl rfl rfl rfl (fun _ hq => by cases hq; exact Or.inl rfl) (fun I5 => ?_)
  refine S.aload_n 3 0 rfl rfl ?_
  refine S.qVI (d := 1) (av := []) (rs := []) (b := 81) 4 rfl co_X12_397 rfl rfl rfl rfl rfl ⟨⟨Nat.le_of_ble_eq_true rfl, Nat.le_of_ble_eq_true rfl⟩, ⟨Nat.le_of_ble_eq_true rfl, Nat.le_of_ble_eq_true rfl⟩, Nat.le_of_ble_eq_true rfl⟩ (cm_X12_canSearch b I5 J) (fun r6 => ?_)
  refine S.if_ne 15 5 rfl (by decide) (fun _ => ?_) (fun _ => ?_)
  · refine S.aload_n 8 0 rfl rfl ?_
    refine S.cVV (d := 26) (av := []) (rs := []) (b := 81) 9 rfl co_X12_401 rfl rfl rfl rfl rfl ⟨⟨Nat.le_of_ble_eq_true rfl, Nat.le_of_ble_eq_true rfl⟩, ⟨Nat.le_of_ble_eq_true rfl, Nat.le_of_ble_eq_true rfl⟩, Nat.le_of_ble_eq_true rfl⟩ (cm_X12_findAll b I5 J) (fun _ I7 J8 => ?_)
    refine S.iconst (0 : Int32) 10 rfl (by decide) ?_
    refine S.istore_n [(1, .int (0 : Int32)), (0, .ref 81)] 11 rfl (by decide) rfl ?_
    refine S.iconst (0 : Int32) 12 rfl (by decide) ?_
    refine S.istore_n [(2, .int (0 : Int32)), (1, .int (0 : Int32)), (0, .ref 81)] 13 rfl (by decide) rfl ?_
    refine S.iconst (0 : Int32) 14 rfl (by decide) ?_
    refine S.istore_n [(3, .int (0 : Int32)), (2, .int (0 : Int32)), (1, .int (0 : Int32)), (0, .ref 81)] 15 rfl (by decide) rfl ?_
    refine S.sub (lv' := [(0, .ref 81), (1, .int (0 : Int32)), (2, .int (0 : Int32)), (3, .int (0 : Int32))]) [3, 2, 1, 0] rfl ?_
    refine s_X12_sets_L25 b _ _ _ (fun y28 y29 => ?_) bgf _ _ _
    refine S.aload_n 99 0 rfl rfl ?_
    refine S.iconst (0 : Int32) 100 rfl (by decide) ?_
    refine S.putI 101 rfl fo_X12_162 rfl rfl rfl rfl (fun _ hq => by cases hq; exact Or.inl rfl) (fun I30 => ?_)
    refine S.aload_n 102 0 rfl rfl ?_
    refine S.iload_n 103 2 rfl rfl ?_
    refine S.i2l 104 rfl ?_
    refine S.cVV (d := 1) (av := [.long (Int32.toInt64 y29)]) (rs := [.long (Int32.toInt64 y29)]) (b := 81) 105 rfl co_X12_371 rfl rfl rfl rfl rfl ⟨⟨Nat.le_of_ble_eq_true rfl, Nat.le_of_ble_eq_true rfl⟩, ⟨Nat.le_of_ble_eq_true rfl, Nat.le_of_ble_eq_true rfl⟩, Nat.le_of_ble_eq_true rfl⟩ (cm_X12_tell b (Int32.toInt64 y29) I30 J8) (fun _ I31 J32 => ?_)
    refine S.iload_n 106 1 rfl rfl ?_
    exact S.iret 107 rfl rfl rfl (Nat.le_refl _) (Nat.le_refl _) rfl
  · refine S.bipush (-3 : Int32) 6 rfl (by decide) ?_
    exact S.iret 7 rfl rfl rfl (Nat.le_refl _) (Nat.le_refl _) rfl
def F_X12_fits_L44 (l1 : Int32) (l2 : Int32) (I : HI) (J : HJ) : Nat → Int32 → Option (Int32 × HI × HJ)
  | 0, _ => none
  | K+1, l3 =>
    cp (F_X12_settings I J) fun r8 =>
    if r8 ≤ l3 then
      some ((0 : Int32), I, J)
    else
      bx l3 2187 <|
      lb (
      F_X12_fits_L44 l1 l2 I J K (l3 + 1)) fun j9 =>
      if (I m_isGhostly (Int32.toNatClampNeg l3)) = 0 then
        bx l3 2187 <|
        cp (F_X12_has (J m_glow (Int32.toNatClampNeg l3)) l1) fun r10 =>
        if r10 = 0 then
          j9
        else
          bx l3 2187 <|
          cp (F_X12_has (J m_glow (Int32.toNatClampNeg l3)) l2) fun r11 =>
          if r11 = 0 then
            j9
          else
            some ((1 : Int32), I, J)
      else
        j9
set_option maxRecDepth 100000 in
theorem s_X12_fits_L44 (b : Bool) (l1 : Int32) (l2 : Int32) (I : HI) (J : HJ) : ∀ (K : Nat) (l3 : Int32), S (fI (zs b)) mX12_fits (rmd 27 0 0) 0 0 (0, 0) 44 [(0, .ref 81), (1, .int l1), (2, .int l2), (3, .int l3)] [] (zs b, I, J) (F_X12_fits_L44 l1 l2 I J K l3) := by
  intro K
  induction K with
  | zero => intro l3; exact S.none
  | succ K ih =>
    intro l3
    rw [F_X12_fits_L44]
    refine S.iload_n 25 3 rfl rfl ?_
    refine S.aload_n 26 0 rfl rfl ?_
    refine S.qVI (d := 1) (av := []) (rs := []) (b := 81) 27 rfl co_X12_380 rfl rfl rfl rfl rfl ⟨⟨Nat.le_of_ble_eq_true rfl, Nat.le_of_ble_eq_true rfl⟩, ⟨Nat.le_of_ble_eq_true rfl, Nat.le_of_ble_eq_true rfl⟩, Nat.le_of_ble_eq_true rfl⟩ (cm_X12_settings b I J) (fun r8 => ?_)
    refine S.icmp_ge 95 28 rfl (by decide) (fun _ => ?_) (fun _ => ?_)
    · refine S.iconst (0 : Int32) 52 rfl (by decide) ?_
      exact S.iret 53 rfl rfl rfl (Nat.le_refl _) (Nat.le_refl _) rfl
    · refine S.aload_n 29 0 rfl rfl ?_
      refine S.getR 30 rfl fo_X12_73 rfl rfl rfl ?_
      refine S.iload_n 31 3 rfl rfl ?_
      refine S.zald 32 rfl rfl ?_
      refine S.jn (fun j => S (fI (zs b)) mX12_fits (rmd 27 0 0) 0 0 (0, 0) 89 [(0, .ref 81), (1, .int l1), (2, .int l2), (3, .int l3)] [] (zs b, I, J) (j)) ?_ (fun j9 hj9 => ?_)
      · refine S.iinc (l3 + 1) [(3, .int (l3 + 1)), (0, .ref 81), (1, .int l1), (2, .int l2)] 50 3 rfl rfl rfl (by decide) rfl ?_
        refine S.goto 44 51 rfl (by decide) ?_
        refine S.sub (lv' := [(0, .ref 81), (1, .int l1), (2, .int l2), (3, .int (l3 + 1))]) [1, 2, 3, 0] rfl ?_
        exact ih _
      · refine S.if_ne 89 33 rfl (by decide) (fun _ => ?_) (fun _ => ?_)
        · exact hj9
        · refine S.aload_n 34 0 rfl rfl ?_
          refine S.getR 35 rfl fo_X12_70 rfl rfl rfl ?_
          refine S.iload_n 36 3 rfl rfl ?_
          refine S.lald 37 rfl rfl ?_
          refine S.iload_n 38 1 rfl rfl ?_
          refine S.qSI (d := 1) (av := [.long (J m_glow (Int32.toNatClampNeg l3)), .int l1]) (rs := [.int l1, .long (J m_glow (Int32.toNatClampNeg l3))]) 39 rfl co_X12_294 rfl rfl ⟨⟨Nat.le_of_ble_eq_true rfl, Nat.le_of_ble_eq_true rfl⟩, ⟨Nat.le_of_ble_eq_true rfl, Nat.le_of_ble_eq_true rfl⟩, Nat.le_of_ble_eq_true rfl⟩ (cm_X12_has (zs b, I, J) (J m_glow (Int32.toNatClampNeg l3)) l1) (fun r10 => ?_)
          refine S.if_eq 89 40 rfl (by decide) (fun _ => ?_) (fun _ => ?_)
          · exact hj9
          · refine S.aload_n 41 0 rfl rfl ?_
            refine S.getR 42 rfl fo_X12_70 rfl rfl rfl ?_
            refine S.iload_n 43 3 rfl rfl ?_
            refine S.lald 44 rfl rfl ?_
            refine S.iload_n 45 2 rfl rfl ?_
            refine S.qSI (d := 1) (av := [.long (J m_glow (Int32.toNatClampNeg l3)), .int l2]) (rs := [.int l2, .long (J m_glow (Int32.toNatClampNeg l3))]) 46 rfl co_X12_294 rfl rfl ⟨⟨Nat.le_of_ble_eq_true rfl, Nat.le_of_ble_eq_true rfl⟩, ⟨Nat.le_of_ble_eq_true rfl, Nat.le_of_ble_eq_true rfl⟩, Nat.le_of_ble_eq_true rfl⟩ (cm_X12_has (zs b, I, J) (J m_glow (Int32.toNatClampNeg l3)) l2) (fun r11 => ?_)
            refine S.if_eq 89 47 rfl (by decide) (fun _ => ?_) (fun _ => ?_)
            · exact hj9
            · refine S.iconst (1 : Int32) 48 rfl (by decide) ?_
              exact S.iret 49 rfl rfl rfl (Nat.le_refl _) (Nat.le_refl _) rfl
def F_X12_fits (l1 : Int32) (l2 : Int32) (I : HI) (J : HJ) : Option (Int32 × HI × HJ) :=
  lb (ui I m_self f_Model_thrown (0 : Int32)) fun I2 =>
  cp (F_X12_isLamp l1 I2 J) fun r3 =>
  if r3 = 0 then
    some ((-1 : Int32), I2, J)
  else
    cp (F_X12_isLamp l2 I2 J) fun r4 =>
    if r4 = 0 then
      some ((-1 : Int32), I2, J)
    else
      if l1 = l2 then
        some ((-1 : Int32), I2, J)
      else
        cp (F_X12_canSearch I2 J) fun r5 =>
        if r5 = 0 then
          some ((-3 : Int32), I2, J)
        else
          cl (F_X12_findAll I2 J) fun _ I6 J7 =>
          F_X12_fits_L44 l1 l2 I6 J7 bgf (0 : Int32)
set_option maxRecDepth 100000 in
theorem cm_X12_fits (b : Bool) (l1 : Int32) (l2 : Int32) (I : HI) (J : HJ) : CM mX12_fits 27 0 0 [.ref 81, .int l1, .int l2] (zs b, I, J) (fI (zs b)) (F_X12_fits l1 l2 I J) := by
  refine S.of okX12_fits pn_X12 (Nat.le_of_ble_eq_true rfl) ?_
  refine S.sub (lv' := [(0, .ref 81), (1, .int l1), (2, .int l2)]) [0, 1, 2] rfl ?_
  unfold F_X12_fits
  refine S.aload_n 0 0 rfl rfl ?_
  refine S.iconst (0 : Int32) 1 rfl (by decide) ?_
  refine S.putI 2 rfl fo_X12_159 rfl rfl rfl rfl (fun _ hq => by cases hq; exact Or.inl rfl) (fun I2 => ?_)
  refine S.aload_n 3 0 rfl rfl ?_
  refine S.iload_n 4 1 rfl rfl ?_
  refine S.qVI (d := 2) (av := [.int l1]) (rs := [.int l1]) (b := 81) 5 rfl co_X12_234 rfl rfl rfl rfl rfl ⟨⟨Nat.le_of_ble_eq_true rfl, Nat.le_of_ble_eq_true rfl⟩, ⟨Nat.le_of_ble_eq_true rfl, Nat.le_of_ble_eq_true rfl⟩, Nat.le_of_ble_eq_true rfl⟩ (cm_X12_isLamp b l1 I2 J) (fun r3 => ?_)
  refine S.if_eq 26 6 rfl (by decide) (fun _ => ?_) (fun _ => ?_)
  · refine S.iconst (-1 : Int32) 14 rfl (by decide) ?_
    exact S.iret 15 rfl rfl rfl (Nat.le_refl _) (Nat.le_refl _) rfl
  · refine S.aload_n 7 0 rfl rfl ?_
    refine S.iload_n 8 2 rfl rfl ?_
    refine S.qVI (d := 2) (av := [.int l2]) (rs := [.int l2]) (b := 81) 9 rfl co_X12_234 rfl rfl rfl rfl rfl ⟨⟨Nat.le_of_ble_eq_true rfl, Nat.le_of_ble_eq_true rfl⟩, ⟨Nat.le_of_ble_eq_true rfl, Nat.le_of_ble_eq_true rfl⟩, Nat.le_of_ble_eq_true rfl⟩ (cm_X12_isLamp b l2 I2 J) (fun r4 => ?_)
    refine S.if_eq 26 10 rfl (by decide) (fun _ => ?_) (fun _ => ?_)
    · refine S.iconst (-1 : Int32) 14 rfl (by decide) ?_
      exact S.iret 15 rfl rfl rfl (Nat.le_refl _) (Nat.le_refl _) rfl
    · refine S.iload_n 11 1 rfl rfl ?_
      refine S.iload_n 12 2 rfl rfl ?_
      refine S.icmp_ne 28 13 rfl (by decide) (fun _ => ?_) (fun _ => ?_)
      · refine S.aload_n 16 0 rfl rfl ?_
        refine S.qVI (d := 1) (av := []) (rs := []) (b := 81) 17 rfl co_X12_397 rfl rfl rfl rfl rfl ⟨⟨Nat.le_of_ble_eq_true rfl, Nat.le_of_ble_eq_true rfl⟩, ⟨Nat.le_of_ble_eq_true rfl, Nat.le_of_ble_eq_true rfl⟩, Nat.le_of_ble_eq_true rfl⟩ (cm_X12_canSearch b I2 J) (fun r5 => ?_)
        refine S.if_ne 38 18 rfl (by decide) (fun _ => ?_) (fun _ => ?_)
        · refine S.aload_n 21 0 rfl rfl ?_
          refine S.cVV (d := 26) (av := []) (rs := []) (b := 81) 22 rfl co_X12_401 rfl rfl rfl rfl rfl ⟨⟨Nat.le_of_ble_eq_true rfl, Nat.le_of_ble_eq_true rfl⟩, ⟨Nat.le_of_ble_eq_true rfl, Nat.le_of_ble_eq_true rfl⟩, Nat.le_of_ble_eq_true rfl⟩ (cm_X12_findAll b I2 J) (fun _ I6 J7 => ?_)
          refine S.iconst (0 : Int32) 23 rfl (by decide) ?_
          refine S.istore_n [(3, .int (0 : Int32)), (0, .ref 81), (1, .int l1), (2, .int l2)] 24 rfl (by decide) rfl ?_
          refine S.sub (lv' := [(0, .ref 81), (1, .int l1), (2, .int l2), (3, .int (0 : Int32))]) [1, 2, 3, 0] rfl ?_
          refine s_X12_fits_L44 b _ _ _ _ bgf _
        · refine S.bipush (-3 : Int32) 19 rfl (by decide) ?_
          exact S.iret 20 rfl rfl rfl (Nat.le_refl _) (Nat.le_refl _) rfl
      · refine S.iconst (-1 : Int32) 14 rfl (by decide) ?_
        exact S.iret 15 rfl rfl rfl (Nat.le_refl _) (Nat.le_refl _) rfl
def F_X12_alone_L24 (I : HI) (J : HJ) : Nat → Int64 → Int32 → Option (Int64 × HI × HJ)
  | 0, _, _ => none
  | K+1, l1, l3 =>
    cp (F_X12_settings I J) fun r7 =>
    if r7 ≤ l3 then
      some (l1, I, J)
    else
      bx l3 2187 <|
      cp (F_J13_bitCount_95d88 (J m_glow (Int32.toNatClampNeg l3))) fun r8 =>
      lb (fun (y9 : Int64) (y10 : Int64) =>
      lb ((y9 ||| y10)) fun x12 =>
      F_X12_alone_L24 I J K x12 (l3 + 1)) fun j11 =>
      if r8 = (1 : Int32) then
        bx l3 2187 <|
        j11 l1 (J m_glow (Int32.toNatClampNeg l3))
      else
        j11 l1 (0 : Int64)
set_option maxRecDepth 100000 in
theorem s_X12_alone_L24 (b : Bool) (I : HI) (J : HJ) : ∀ (K : Nat) (l1 : Int64) (l3 : Int32), S (fL (zs b)) mX12_alone (rmd 27 0 0) 0 0 (0, 0) 24 [(0, .ref 81), (1, .long l1), (3, .int l3)] [] (zs b, I, J) (F_X12_alone_L24 I J K l1 l3) := by
  intro K
  induction K with
  | zero => intro l1 l3; exact S.none
  | succ K ih =>
    intro l1 l3
    rw [F_X12_alone_L24]
    refine S.iload_n 14 2 rfl rfl ?_
    refine S.aload_n 15 0 rfl rfl ?_
    refine S.qVI (d := 1) (av := []) (rs := []) (b := 81) 16 rfl co_X12_380 rfl rfl rfl rfl rfl ⟨⟨Nat.le_of_ble_eq_true rfl, Nat.le_of_ble_eq_true rfl⟩, ⟨Nat.le_of_ble_eq_true rfl, Nat.le_of_ble_eq_true rfl⟩, Nat.le_of_ble_eq_true rfl⟩ (cm_X12_settings b I J) (fun r7 => ?_)
    refine S.icmp_ge 64 17 rfl (by decide) (fun _ => ?_) (fun _ => ?_)
    · refine S.lload_n 36 1 rfl rfl ?_
      exact S.lret 37 rfl rfl (Nat.le_refl _) (Nat.le_refl _) rfl
    · refine S.lload_n 18 1 rfl rfl ?_
      refine S.aload_n 19 0 rfl rfl ?_
      refine S.getR 20 rfl fo_X12_70 rfl rfl rfl ?_
      refine S.iload_n 21 2 rfl rfl ?_
      refine S.lald 22 rfl rfl ?_
      refine S.qSI (d := 1) (av := [.long (J m_glow (Int32.toNatClampNeg l3))]) (rs := [.long (J m_glow (Int32.toNatClampNeg l3))]) 23 rfl co_X12_357 rfl rfl ⟨⟨Nat.le_of_ble_eq_true rfl, Nat.le_of_ble_eq_true rfl⟩, ⟨Nat.le_of_ble_eq_true rfl, Nat.le_of_ble_eq_true rfl⟩, Nat.le_of_ble_eq_true rfl⟩ (cm_J13_bitCount_95d88 (zs b, I, J) (J m_glow (Int32.toNatClampNeg l3))) (fun r8 => ?_)
      refine S.iconst (1 : Int32) 24 rfl (by decide) ?_
      refine S.jn (fun j => ∀ (y9 : Int64) (y10 : Int64), S (fL (zs b)) mX12_alone (rmd 27 0 0) 0 0 (0, 0) 56 [(0, .ref 81), (3, .int l3)] [.long y10, .long y9] (zs b, I, J) (j y9 y10)) (fun y9 y10 => ?_) (fun j11 hj11 => ?_)
      · refine S.lor 32 rfl ?_
        refine S.nml (fun x12 => ?_)
        refine S.lstore_n [(1, .long x12), (0, .ref 81), (3, .int l3)] 33 rfl (by decide) rfl ?_
        refine S.iinc (l3 + 1) [(3, .int (l3 + 1)), (1, .long x12), (0, .ref 81)] 34 2 rfl rfl rfl (by decide) rfl ?_
        refine S.goto 24 35 rfl (by decide) ?_
        refine S.sub (lv' := [(0, .ref 81), (1, .long x12), (3, .int (l3 + 1))]) [2, 1, 0] rfl ?_
        exact ih _ _
      · refine S.icmp_ne 55 25 rfl (by decide) (fun _ => ?_) (fun _ => ?_)
        · refine S.lconst (0 : Int64) 31 rfl (by decide) ?_
          refine S.sub (lv' := [(0, .ref 81), (3, .int l3)]) [0, 2] rfl ?_
          exact hj11 _ _
        · refine S.aload_n 26 0 rfl rfl ?_
          refine S.getR 27 rfl fo_X12_70 rfl rfl rfl ?_
          refine S.iload_n 28 2 rfl rfl ?_
          refine S.lald 29 rfl rfl ?_
          refine S.goto 56 30 rfl (by decide) ?_
          refine S.sub (lv' := [(0, .ref 81), (3, .int l3)]) [0, 2] rfl ?_
          exact hj11 _ _
def F_X12_alone  (I : HI) (J : HJ) : Option (Int64 × HI × HJ) :=
  lb (ui I m_self f_Model_thrown (0 : Int32)) fun I3 =>
  cp (F_X12_canSearch I3 J) fun r4 =>
  if r4 = 0 then
    some ((-3 : Int64), I3, J)
  else
    cl (F_X12_findAll I3 J) fun _ I5 J6 =>
    F_X12_alone_L24 I5 J6 bgf (0 : Int64) (0 : Int32)
set_option maxRecDepth 100000 in
theorem cm_X12_alone (b : Bool)  (I : HI) (J : HJ) : CM mX12_alone 27 0 0 [.ref 81] (zs b, I, J) (fL (zs b)) (F_X12_alone  I J) := by
  refine S.of okX12_alone pn_X12 (Nat.le_of_ble_eq_true rfl) ?_
  refine S.sub (lv' := [(0, .ref 81)]) [0] rfl ?_
  unfold F_X12_alone
  refine S.aload_n 0 0 rfl rfl ?_
  refine S.iconst (0 : Int32) 1 rfl (by decide) ?_
  refine S.putI 2 rfl fo_X12_159 rfl rfl rfl rfl (fun _ hq => by cases hq; exact Or.inl rfl) (fun I3 => ?_)
  refine S.aload_n 3 0 rfl rfl ?_
  refine S.qVI (d := 1) (av := []) (rs := []) (b := 81) 4 rfl co_X12_397 rfl rfl rfl rfl rfl ⟨⟨Nat.le_of_ble_eq_true rfl, Nat.le_of_ble_eq_true rfl⟩, ⟨Nat.le_of_ble_eq_true rfl, Nat.le_of_ble_eq_true rfl⟩, Nat.le_of_ble_eq_true rfl⟩ (cm_X12_canSearch b I3 J) (fun r4 => ?_)
  refine S.if_ne 16 5 rfl (by decide) (fun _ => ?_) (fun _ => ?_)
  · refine S.aload_n 8 0 rfl rfl ?_
    refine S.cVV (d := 26) (av := []) (rs := []) (b := 81) 9 rfl co_X12_401 rfl rfl rfl rfl rfl ⟨⟨Nat.le_of_ble_eq_true rfl, Nat.le_of_ble_eq_true rfl⟩, ⟨Nat.le_of_ble_eq_true rfl, Nat.le_of_ble_eq_true rfl⟩, Nat.le_of_ble_eq_true rfl⟩ (cm_X12_findAll b I3 J) (fun _ I5 J6 => ?_)
    refine S.lconst (0 : Int64) 10 rfl (by decide) ?_
    refine S.lstore_n [(1, .long (0 : Int64)), (0, .ref 81)] 11 rfl (by decide) rfl ?_
    refine S.iconst (0 : Int32) 12 rfl (by decide) ?_
    refine S.istore_n [(3, .int (0 : Int32)), (1, .long (0 : Int64)), (0, .ref 81)] 13 rfl (by decide) rfl ?_
    refine S.sub (lv' := [(0, .ref 81), (1, .long (0 : Int64)), (3, .int (0 : Int32))]) [2, 1, 0] rfl ?_
    refine s_X12_alone_L24 b _ _ bgf _ _
  · refine S.ldc2 (-3 : Int64) 6 rfl ko_X12_407 ?_
    exact S.lret 7 rfl rfl (Nat.le_refl _) (Nat.le_refl _) rfl
def F_X12_twins_L57 (l1 : Int32) (l2 : Int32) (l3 : Int32) (I : HI) (J : HJ) (kx135 : Int32 → Int32 → Option (Int32 × HI × HJ)) : Nat → Int32 → Int32 → Int32 → Option (Int32 × HI × HJ)
  | 0, _, _, _ => none
  | K+1, l4, l5, l6 =>
    cp (F_X12_settings I J) fun r10 =>
    if r10 ≤ l6 then
      kx135 l4 l5
    else
      if l5 = 0 then
        kx135 l4 l5
      else
        bx l6 2187 <|
        cp (F_X12_has (J m_glow (Int32.toNatClampNeg l6)) l2) fun r11 =>
        bx l6 2187 <|
        cp (F_X12_has (J m_glow (Int32.toNatClampNeg l6)) l3) fun r12 =>
        lb (fun (y13 : Int32) =>
        lb (fun (y15 : Int32) =>
        F_X12_twins_L57 l1 l2 l3 I J kx135 K y15 y13 (l6 + 1)) fun j16 =>
        lb (
        j16 (1 : Int32)) fun j17 =>
        if l4 = 0 then
          bx l6 2187 <|
          cp (F_X12_has (J m_glow (Int32.toNatClampNeg l6)) l2) fun r18 =>
          if r18 = 0 then
            j16 (0 : Int32)
          else
            j17
        else
          j17) fun j14 =>
        if r11 = r12 then
          j14 (1 : Int32)
        else
          j14 (0 : Int32)
set_option maxRecDepth 100000 in
theorem s_X12_twins_L57 (b : Bool) (l1 : Int32) (l2 : Int32) (l3 : Int32) (I : HI) (J : HJ) (kx135 : Int32 → Int32 → Option (Int32 × HI × HJ)) (hkx135 : ∀ (y4 : Int32) (y5 : Int32), S (fI (zs b)) mX12_twins (rmd 27 0 0) 0 0 (0, 0) 135 [(0, .ref 81), (1, .int l1), (2, .int l2), (3, .int l3), (4, .int y4), (5, .int y5)] [] (zs b, I, J) (kx135 y4 y5)) : ∀ (K : Nat) (l4 : Int32) (l5 : Int32) (l6 : Int32), S (fI (zs b)) mX12_twins (rmd 27 0 0) 0 0 (0, 0) 57 [(0, .ref 81), (1, .int l1), (2, .int l2), (3, .int l3), (4, .int l4), (5, .int l5), (6, .int l6)] [] (zs b, I, J) (F_X12_twins_L57 l1 l2 l3 I J kx135 K l4 l5 l6) := by
  intro K
  induction K with
  | zero => intro l4 l5 l6; exact S.none
  | succ K ih =>
    intro l4 l5 l6
    rw [F_X12_twins_L57]
    refine S.iload 35 6 rfl rfl ?_
    refine S.aload_n 36 0 rfl rfl ?_
    refine S.qVI (d := 1) (av := []) (rs := []) (b := 81) 37 rfl co_X12_380 rfl rfl rfl rfl rfl ⟨⟨Nat.le_of_ble_eq_true rfl, Nat.le_of_ble_eq_true rfl⟩, ⟨Nat.le_of_ble_eq_true rfl, Nat.le_of_ble_eq_true rfl⟩, Nat.le_of_ble_eq_true rfl⟩ (cm_X12_settings b I J) (fun r10 => ?_)
    refine S.icmp_ge 135 38 rfl (by decide) (fun _ => ?_) (fun _ => ?_)
    · refine S.sub (lv' := [(0, .ref 81), (1, .int l1), (2, .int l2), (3, .int l3), (4, .int l4), (5, .int l5)]) [0, 1, 2, 3, 4, 5] rfl ?_
      exact hkx135 _ _
    · refine S.iload 39 5 rfl rfl ?_
      refine S.if_eq 135 40 rfl (by decide) (fun _ => ?_) (fun _ => ?_)
      · refine S.sub (lv' := [(0, .ref 81), (1, .int l1), (2, .int l2), (3, .int l3), (4, .int l4), (5, .int l5)]) [0, 1, 2, 3, 4, 5] rfl ?_
        exact hkx135 _ _
      · refine S.aload_n 41 0 rfl rfl ?_
        refine S.getR 42 rfl fo_X12_70 rfl rfl rfl ?_
        refine S.iload 43 6 rfl rfl ?_
        refine S.lald 44 rfl rfl ?_
        refine S.iload_n 45 2 rfl rfl ?_
        refine S.qSI (d := 1) (av := [.long (J m_glow (Int32.toNatClampNeg l6)), .int l2]) (rs := [.int l2, .long (J m_glow (Int32.toNatClampNeg l6))]) 46 rfl co_X12_294 rfl rfl ⟨⟨Nat.le_of_ble_eq_true rfl, Nat.le_of_ble_eq_true rfl⟩, ⟨Nat.le_of_ble_eq_true rfl, Nat.le_of_ble_eq_true rfl⟩, Nat.le_of_ble_eq_true rfl⟩ (cm_X12_has (zs b, I, J) (J m_glow (Int32.toNatClampNeg l6)) l2) (fun r11 => ?_)
        refine S.aload_n 47 0 rfl rfl ?_
        refine S.getR 48 rfl fo_X12_70 rfl rfl rfl ?_
        refine S.iload 49 6 rfl rfl ?_
        refine S.lald 50 rfl rfl ?_
        refine S.iload_n 51 3 rfl rfl ?_
        refine S.qSI (d := 1) (av := [.long (J m_glow (Int32.toNatClampNeg l6)), .int l3]) (rs := [.int l3, .long (J m_glow (Int32.toNatClampNeg l6))]) 52 rfl co_X12_294 rfl rfl ⟨⟨Nat.le_of_ble_eq_true rfl, Nat.le_of_ble_eq_true rfl⟩, ⟨Nat.le_of_ble_eq_true rfl, Nat.le_of_ble_eq_true rfl⟩, Nat.le_of_ble_eq_true rfl⟩ (cm_X12_has (zs b, I, J) (J m_glow (Int32.toNatClampNeg l6)) l3) (fun r12 => ?_)
        refine S.jn (fun j => ∀ (y13 : Int32), S (fI (zs b)) mX12_twins (rmd 27 0 0) 0 0 (0, 0) 101 [(0, .ref 81), (1, .int l1), (2, .int l2), (3, .int l3), (4, .int l4), (6, .int l6)] [.int y13] (zs b, I, J) (j y13)) (fun y13 => ?_) (fun j14 hj14 => ?_)
        · refine S.istore [(5, .int y13), (0, .ref 81), (1, .int l1), (2, .int l2), (3, .int l3), (4, .int l4), (6, .int l6)] 57 rfl (by decide) rfl ?_
          refine S.iload 58 5 rfl rfl ?_
          refine S.jn (fun j => ∀ (y15 : Int32), S (fI (zs b)) mX12_twins (rmd 27 0 0) 0 0 (0, 0) 127 [(0, .ref 81), (1, .int l1), (2, .int l2), (3, .int l3), (5, .int y13), (6, .int l6)] [.int y15] (zs b, I, J) (j y15)) (fun y15 => ?_) (fun j16 hj16 => ?_)
          · refine S.istore [(4, .int y15), (0, .ref 81), (1, .int l1), (2, .int l2), (3, .int l3), (5, .int y13), (6, .int l6)] 70 rfl (by decide) rfl ?_
            refine S.iinc (l6 + 1) [(6, .int (l6 + 1)), (4, .int y15), (0, .ref 81), (1, .int l1), (2, .int l2), (3, .int l3), (5, .int y13)] 71 6 rfl rfl rfl (by decide) rfl ?_
            refine S.goto 57 72 rfl (by decide) ?_
            refine S.sub (lv' := [(0, .ref 81), (1, .int l1), (2, .int l2), (3, .int l3), (4, .int y15), (5, .int y13), (6, .int (l6 + 1))]) [2, 3, 4, 5, 1, 6, 0] rfl ?_
            exact ih _ _ _
          · refine S.jn (fun j => S (fI (zs b)) mX12_twins (rmd 27 0 0) 0 0 (0, 0) 122 [(0, .ref 81), (1, .int l1), (2, .int l2), (3, .int l3), (5, .int y13), (6, .int l6)] [] (zs b, I, J) (j)) ?_ (fun j17 hj17 => ?_)
            · refine S.iconst (1 : Int32) 67 rfl (by decide) ?_
              refine S.goto 127 68 rfl (by decide) ?_
              exact hj16 _
            · refine S.if_ne 122 59 rfl (by decide) (fun _ => ?_) (fun _ => ?_)
              · refine S.sub (lv' := [(0, .ref 81), (1, .int l1), (2, .int l2), (3, .int l3), (5, .int y13), (6, .int l6)]) [1, 2, 3, 4, 0, 6] rfl ?_
                exact hj17
              · refine S.aload_n 60 1 rfl rfl ?_
                refine S.getR 61 rfl fo_X12_70 rfl rfl rfl ?_
                refine S.iload 62 6 rfl rfl ?_
                refine S.lald 63 rfl rfl ?_
                refine S.iload_n 64 3 rfl rfl ?_
                refine S.qSI (d := 1) (av := [.long (J m_glow (Int32.toNatClampNeg l6)), .int l2]) (rs := [.int l2, .long (J m_glow (Int32.toNatClampNeg l6))]) 65 rfl co_X12_294 rfl rfl ⟨⟨Nat.le_of_ble_eq_true rfl, Nat.le_of_ble_eq_true rfl⟩, ⟨Nat.le_of_ble_eq_true rfl, Nat.le_of_ble_eq_true rfl⟩, Nat.le_of_ble_eq_true rfl⟩ (cm_X12_has (zs b, I, J) (J m_glow (Int32.toNatClampNeg l6)) l2) (fun r18 => ?_)
                refine S.if_eq 126 66 rfl (by decide) (fun _ => ?_) (fun _ => ?_)
                · refine S.iconst (0 : Int32) 69 rfl (by decide) ?_
                  refine S.sub (lv' := [(0, .ref 81), (1, .int l1), (2, .int l2), (3, .int l3), (5, .int y13), (6, .int l6)]) [1, 2, 3, 4, 0, 6] rfl ?_
                  exact hj16 _
                · refine S.sub (lv' := [(0, .ref 81), (1, .int l1), (2, .int l2), (3, .int l3), (5, .int y13), (6, .int l6)]) [1, 2, 3, 4, 0, 6] rfl ?_
                  exact hj17
        · refine S.icmp_ne 100 53 rfl (by decide) (fun _ => ?_) (fun _ => ?_)
          · refine S.iconst (0 : Int32) 56 rfl (by decide) ?_
            refine S.sub (lv' := [(0, .ref 81), (1, .int l1), (2, .int l2), (3, .int l3), (4, .int l4), (6, .int l6)]) [0, 1, 2, 3, 4, 6] rfl ?_
            exact hj14 _
          · refine S.iconst (1 : Int32) 54 rfl (by decide) ?_
            refine S.goto 101 55 rfl (by decide) ?_
            refine S.sub (lv' := [(0, .ref 81), (1, .int l1), (2, .int l2), (3, .int l3), (4, .int l4), (6, .int l6)]) [0, 1, 2, 3, 4, 6] rfl ?_
            exact hj14 _
def F_X12_twins_L40 (l2 : Int32) (kx173 : Int32 → HI → HJ → Option (Int32 × HI × HJ)) : Nat → Int32 → Int32 → HI → HJ → Option (Int32 × HI × HJ)
  | 0, _, _, _, _ => none
  | K+1, l1, l3, I, J =>
    if (I m_self f_Model_lamps) ≤ l3 then
      kx173 l1 I J
    else
      F_X12_twins_L57 l1 l2 l3 I J (fun (y19 : Int32) (y20 : Int32) =>
      lb (fun (y21 : Int32) (I22 : HI) (J23 : HJ) =>
      F_X12_twins_L40 l2 kx173 K y21 (l3 + 1) I22 J23) fun j24 =>
      if y20 = 0 then
        j24 l1 I J
      else
        if y19 = 0 then
          j24 l1 I J
        else
          lb (fun (I25 : HI) (J26 : HJ) =>
          j24 (l1 + 1) I25 J26) fun j27 =>
          if l1 = 0 then
            cl (F_X12_tell (Int32.toInt64 l2) I J) fun _ I28 J29 =>
            cl (F_X12_tell (Int32.toInt64 l3) I28 J29) fun _ I30 J31 =>
            j27 I30 J31
          else
            j27 I J) bgf (0 : Int32) (1 : Int32) (0 : Int32)
set_option maxRecDepth 100000 in
theorem s_X12_twins_L40 (b : Bool) (l2 : Int32) (kx173 : Int32 → HI → HJ → Option (Int32 × HI × HJ)) (hkx173 : ∀ (y1 : Int32) (I1 : HI) (J1 : HJ), S (fI (zs b)) mX12_twins (rmd 27 0 0) 0 0 (0, 0) 173 [(0, .ref 81), (1, .int y1), (2, .int l2)] [] (zs b, I1, J1) (kx173 y1 I1 J1)) : ∀ (K : Nat) (l1 : Int32) (l3 : Int32) (I : HI) (J : HJ), S (fI (zs b)) mX12_twins (rmd 27 0 0) 0 0 (0, 0) 40 [(0, .ref 81), (1, .int l1), (2, .int l2), (3, .int l3)] [] (zs b, I, J) (F_X12_twins_L40 l2 kx173 K l1 l3 I J) := by
  intro K
  induction K with
  | zero => intro l1 l3 I J; exact S.none
  | succ K ih =>
    intro l1 l3 I J
    rw [F_X12_twins_L40]
    refine S.iload_n 25 3 rfl rfl ?_
    refine S.aload_n 26 0 rfl rfl ?_
    refine S.getI 27 rfl fo_X12_169 rfl rfl ?_
    refine S.icmp_ge 173 28 rfl (by decide) (fun _ => ?_) (fun _ => ?_)
    · refine S.sub (lv' := [(0, .ref 81), (1, .int l1), (2, .int l2)]) [0, 1, 2] rfl ?_
      exact hkx173 _ _ _
    · refine S.iconst (0 : Int32) 29 rfl (by decide) ?_
      refine S.istore [(4, .int (0 : Int32)), (0, .ref 81), (1, .int l1), (2, .int l2), (3, .int l3)] 30 rfl (by decide) rfl ?_
      refine S.iconst (1 : Int32) 31 rfl (by decide) ?_
      refine S.istore [(5, .int (1 : Int32)), (4, .int (0 : Int32)), (0, .ref 81), (1, .int l1), (2, .int l2), (3, .int l3)] 32 rfl (by decide) rfl ?_
      refine S.iconst (0 : Int32) 33 rfl (by decide) ?_
      refine S.istore [(6, .int (0 : Int32)), (5, .int (1 : Int32)), (4, .int (0 : Int32)), (0, .ref 81), (1, .int l1), (2, .int l2), (3, .int l3)] 34 rfl (by decide) rfl ?_
      refine S.sub (lv' := [(0, .ref 81), (1, .int l1), (2, .int l2), (3, .int l3), (4, .int (0 : Int32)), (5, .int (1 : Int32)), (6, .int (0 : Int32))]) [3, 4, 5, 6, 2, 1, 0] rfl ?_
      refine s_X12_twins_L57 b _ _ _ _ _ _ (fun y19 y20 => ?_) bgf _ _ _
      refine S.iload 73 5 rfl rfl ?_
      refine S.jn (fun j => ∀ (y21 : Int32) (I22 : HI) (J23 : HJ), S (fI (zs b)) mX12_twins (rmd 27 0 0) 0 0 (0, 0) 167 [(0, .ref 81), (1, .int y21), (2, .int l2), (3, .int l3)] [] (zs b, I22, J23) (j y21 I22 J23)) (fun y21 I22 J23 => ?_) (fun j24 hj24 => ?_)
      · refine S.iinc (l3 + 1) [(3, .int (l3 + 1)), (0, .ref 81), (1, .int y21), (2, .int l2)] 89 3 rfl rfl rfl (by decide) rfl ?_
        refine S.goto 40 90 rfl (by decide) ?_
        refine S.sub (lv' := [(0, .ref 81), (1, .int y21), (2, .int l2), (3, .int (l3 + 1))]) [1, 2, 3, 0] rfl ?_
        exact ih _ _ _ _
      · refine S.if_eq 167 74 rfl (by decide) (fun _ => ?_) (fun _ => ?_)
        · refine S.sub (lv' := [(0, .ref 81), (1, .int l1), (2, .int l2), (3, .int l3)]) [0, 1, 2, 3] rfl ?_
          exact hj24 _ _ _
        · refine S.iload 75 4 rfl rfl ?_
          refine S.if_ne 148 76 rfl (by decide) (fun _ => ?_) (fun _ => ?_)
          · refine S.iload_n 78 1 rfl rfl ?_
            refine S.jn (fun j => ∀ (I25 : HI) (J26 : HJ), S (fI (zs b)) mX12_twins (rmd 27 0 0) 0 0 (0, 0) 164 [(0, .ref 81), (1, .int l1), (2, .int l2), (3, .int l3)] [] (zs b, I25, J26) (j I25 J26)) (fun I25 J26 => ?_) (fun j27 hj27 => ?_)
            · refine S.iinc (l1 + 1) [(1, .int (l1 + 1)), (0, .ref 81), (2, .int l2), (3, .int l3)] 88 1 rfl rfl rfl (by decide) rfl ?_
              refine S.sub (lv' := [(0, .ref 81), (1, .int (l1 + 1)), (2, .int l2), (3, .int l3)]) [1, 0, 2, 3] rfl ?_
              exact hj24 _ _ _
            · refine S.if_ne 164 79 rfl (by decide) (fun _ => ?_) (fun _ => ?_)
              · refine S.sub (lv' := [(0, .ref 81), (1, .int l1), (2, .int l2), (3, .int l3)]) [0, 1, 2, 3] rfl ?_
                exact hj27 _ _
              · refine S.aload_n 80 0 rfl rfl ?_
                refine S.iload_n 81 2 rfl rfl ?_
                refine S.i2l 82 rfl ?_
                refine S.cVV (d := 1) (av := [.long (Int32.toInt64 l2)]) (rs := [.long (Int32.toInt64 l2)]) (b := 81) 83 rfl co_X12_371 rfl rfl rfl rfl rfl ⟨⟨Nat.le_of_ble_eq_true rfl, Nat.le_of_ble_eq_true rfl⟩, ⟨Nat.le_of_ble_eq_true rfl, Nat.le_of_ble_eq_true rfl⟩, Nat.le_of_ble_eq_true rfl⟩ (cm_X12_tell b (Int32.toInt64 l2) I J) (fun _ I28 J29 => ?_)
                refine S.aload_n 84 0 rfl rfl ?_
                refine S.iload_n 85 3 rfl rfl ?_
                refine S.i2l 86 rfl ?_
                refine S.cVV (d := 1) (av := [.long (Int32.toInt64 l3)]) (rs := [.long (Int32.toInt64 l3)]) (b := 81) 87 rfl co_X12_371 rfl rfl rfl rfl rfl ⟨⟨Nat.le_of_ble_eq_true rfl, Nat.le_of_ble_eq_true rfl⟩, ⟨Nat.le_of_ble_eq_true rfl, Nat.le_of_ble_eq_true rfl⟩, Nat.le_of_ble_eq_true rfl⟩ (cm_X12_tell b (Int32.toInt64 l3) I28 J29) (fun _ I30 J31 => ?_)
                refine S.sub (lv' := [(0, .ref 81), (1, .int l1), (2, .int l2), (3, .int l3)]) [0, 1, 2, 3] rfl ?_
                exact hj27 _ _
          · refine S.goto 167 77 rfl (by decide) ?_
            refine S.sub (lv' := [(0, .ref 81), (1, .int l1), (2, .int l2), (3, .int l3)]) [0, 1, 2, 3] rfl ?_
            exact hj24 _ _ _
def F_X12_twins_L28  : Nat → Int32 → Int32 → HI → HJ → Option (Int32 × HI × HJ)
  | 0, _, _, _, _ => none
  | K+1, l1, l2, I, J =>
    if (I m_self f_Model_lamps) ≤ l2 then
      some (l1, I, J)
    else
      lb ((l2 + (1 : Int32))) fun x9 =>
      F_X12_twins_L40 l2 (fun (y32 : Int32) (I33 : HI) (J34 : HJ) =>
      F_X12_twins_L28 K y32 (l2 + 1) I33 J34) bgf l1 x9 I J
set_option maxRecDepth 100000 in
theorem s_X12_twins_L28 (b : Bool)  : ∀ (K : Nat) (l1 : Int32) (l2 : Int32) (I : HI) (J : HJ), S (fI (zs b)) mX12_twins (rmd 27 0 0) 0 0 (0, 0) 28 [(0, .ref 81), (1, .int l1), (2, .int l2)] [] (zs b, I, J) (F_X12_twins_L28 K l1 l2 I J) := by
  intro K
  induction K with
  | zero => intro l1 l2 I J; exact S.none
  | succ K ih =>
    intro l1 l2 I J
    rw [F_X12_twins_L28]
    refine S.iload_n 17 2 rfl rfl ?_
    refine S.aload_n 18 0 rfl rfl ?_
    refine S.getI 19 rfl fo_X12_169 rfl rfl ?_
    refine S.icmp_ge 179 20 rfl (by decide) (fun _ => ?_) (fun _ => ?_)
    · refine S.iload_n 93 1 rfl rfl ?_
      exact S.iret 94 rfl rfl rfl (Nat.le_refl _) (Nat.le_refl _) rfl
    · refine S.iload_n 21 2 rfl rfl ?_
      refine S.iconst (1 : Int32) 22 rfl (by decide) ?_
      refine S.iadd 23 rfl ?_
      refine S.nmi (fun x9 => ?_)
      refine S.istore_n [(3, .int x9), (0, .ref 81), (1, .int l1), (2, .int l2)] 24 rfl (by decide) rfl ?_
      refine S.sub (lv' := [(0, .ref 81), (1, .int l1), (2, .int l2), (3, .int x9)]) [1, 2, 3, 0] rfl ?_
      refine s_X12_twins_L40 b _ _ (fun y32 I33 J34 => ?_) bgf _ _ _ _
      refine S.iinc (l2 + 1) [(2, .int (l2 + 1)), (0, .ref 81), (1, .int y32)] 91 2 rfl rfl rfl (by decide) rfl ?_
      refine S.goto 28 92 rfl (by decide) ?_
      refine S.sub (lv' := [(0, .ref 81), (1, .int y32), (2, .int (l2 + 1))]) [1, 2, 0] rfl ?_
      exact ih _ _ _ _
def F_X12_twins  (I : HI) (J : HJ) : Option (Int32 × HI × HJ) :=
  lb (ui I m_self f_Model_thrown (0 : Int32)) fun I4 =>
  cp (F_X12_canSearch I4 J) fun r5 =>
  if r5 = 0 then
    some ((-3 : Int32), I4, J)
  else
    cl (F_X12_findAll I4 J) fun _ I6 J7 =>
    lb (ui I6 m_self f_Model_rowMany (0 : Int32)) fun I8 =>
    F_X12_twins_L28 bgf (0 : Int32) (0 : Int32) I8 J7
set_option maxRecDepth 100000 in
theorem cm_X12_twins (b : Bool)  (I : HI) (J : HJ) : CM mX12_twins 27 0 0 [.ref 81] (zs b, I, J) (fI (zs b)) (F_X12_twins  I J) := by
  refine S.of okX12_twins pn_X12 (Nat.le_of_ble_eq_true rfl) ?_
  refine S.sub (lv' := [(0, .ref 81)]) [0] rfl ?_
  unfold F_X12_twins
  refine S.aload_n 0 0 rfl rfl ?_
  refine S.iconst (0 : Int32) 1 rfl (by decide) ?_
  refine S.putI 2 rfl fo_X12_159 rfl rfl rfl rfl (fun _ hq => by cases hq; exact Or.inl rfl) (fun I4 => ?_)
  refine S.aload_n 3 0 rfl rfl ?_
  refine S.qVI (d := 1) (av := []) (rs := []) (b := 81) 4 rfl co_X12_397 rfl rfl rfl rfl rfl ⟨⟨Nat.le_of_ble_eq_true rfl, Nat.le_of_ble_eq_true rfl⟩, ⟨Nat.le_of_ble_eq_true rfl, Nat.le_of_ble_eq_true rfl⟩, Nat.le_of_ble_eq_true rfl⟩ (cm_X12_canSearch b I4 J) (fun r5 => ?_)
  refine S.if_ne 15 5 rfl (by decide) (fun _ => ?_) (fun _ => ?_)
  · refine S.aload_n 8 0 rfl rfl ?_
    refine S.cVV (d := 26) (av := []) (rs := []) (b := 81) 9 rfl co_X12_401 rfl rfl rfl rfl rfl ⟨⟨Nat.le_of_ble_eq_true rfl, Nat.le_of_ble_eq_true rfl⟩, ⟨Nat.le_of_ble_eq_true rfl, Nat.le_of_ble_eq_true rfl⟩, Nat.le_of_ble_eq_true rfl⟩ (cm_X12_findAll b I4 J) (fun _ I6 J7 => ?_)
    refine S.iconst (0 : Int32) 10 rfl (by decide) ?_
    refine S.istore_n [(1, .int (0 : Int32)), (0, .ref 81)] 11 rfl (by decide) rfl ?_
    refine S.aload_n 12 1 rfl rfl ?_
    refine S.iconst (0 : Int32) 13 rfl (by decide) ?_
    refine S.putI 14 rfl fo_X12_162 rfl rfl rfl rfl (fun _ hq => by cases hq; exact Or.inl rfl) (fun I8 => ?_)
    refine S.iconst (0 : Int32) 15 rfl (by decide) ?_
    refine S.istore_n [(2, .int (0 : Int32)), (1, .int (0 : Int32)), (0, .ref 81)] 16 rfl (by decide) rfl ?_
    refine S.sub (lv' := [(0, .ref 81), (1, .int (0 : Int32)), (2, .int (0 : Int32))]) [2, 1, 0] rfl ?_
    refine s_X12_twins_L28 b bgf _ _ _ _
  · refine S.bipush (-3 : Int32) 6 rfl (by decide) ?_
    exact S.iret 7 rfl rfl rfl (Nat.le_refl _) (Nat.le_refl _) rfl
def F_X12_range_L38 (l1 : Int32) (l2 : Int32) (l3 : Int64) (l5 : Int32) (kx83 : Int32 → HI → HJ → Option (Int32 × HI × HJ)) : Nat → Int32 → Int32 → HI → HJ → Option (Int32 × HI × HJ)
  | 0, _, _, _, _ => none
  | K+1, l6, l7, I, J =>
    if (20 : Int32) < l7 then
      kx83 l6 I J
    else
      bx (0 : Int32) 3 <|
      lb (ui I m_sets (Int32.toNatClampNeg (0 : Int32)) l7) fun I12 =>
      cl (F_X12_glowing l1 l2 I12 J) fun r13 I14 J15 =>
      lb (fun (y16 : Int32) (y17 : Int32) =>
      lb ((y16 ||| y17)) fun x19 =>
      F_X12_range_L38 l1 l2 l3 l5 kx83 K x19 (l7 + 1) I14 J15) fun j18 =>
      if (lg_cmp r13 l3) = 0 then
        j18 l6 (oshl (1 : Int32) l7)
      else
        j18 l6 (0 : Int32)
set_option maxRecDepth 100000 in
theorem s_X12_range_L38 (b : Bool) (l1 : Int32) (l2 : Int32) (l3 : Int64) (l5 : Int32) (kx83 : Int32 → HI → HJ → Option (Int32 × HI × HJ)) (hkx83 : ∀ (y6 : Int32) (I1 : HI) (J1 : HJ), S (fI (zs b)) mX12_range (rmd 26 0 0) 0 0 (0, 0) 83 [(0, .ref 81), (5, .int l5), (6, .int y6)] [] (zs b, I1, J1) (kx83 y6 I1 J1)) : ∀ (K : Nat) (l6 : Int32) (l7 : Int32) (I : HI) (J : HJ), S (fI (zs b)) mX12_range (rmd 26 0 0) 0 0 (0, 0) 38 [(0, .ref 81), (1, .int l1), (2, .int l2), (3, .long l3), (5, .int l5), (6, .int l6), (7, .int l7)] [] (zs b, I, J) (F_X12_range_L38 l1 l2 l3 l5 kx83 K l6 l7 I J) := by
  intro K
  induction K with
  | zero => intro l6 l7 I J; exact S.none
  | succ K ih =>
    intro l6 l7 I J
    rw [F_X12_range_L38]
    refine S.iload 25 6 rfl rfl ?_
    refine S.bipush (20 : Int32) 26 rfl (by decide) ?_
    refine S.icmp_gt 83 27 rfl (by decide) (fun _ => ?_) (fun _ => ?_)
    · refine S.sub (lv' := [(0, .ref 81), (5, .int l5), (6, .int l6)]) [0, 4, 5] rfl ?_
      exact hkx83 _ _ _
    · refine S.aload_n 28 0 rfl rfl ?_
      refine S.getR 29 rfl fo_X12_26 rfl rfl rfl ?_
      refine S.iconst (0 : Int32) 30 rfl (by decide) ?_
      refine S.iload 31 6 rfl rfl ?_
      refine S.iast 32 rfl rfl (fun I12 => ?_)
      refine S.iload 33 5 rfl rfl ?_
      refine S.aload_n 34 0 rfl rfl ?_
      refine S.iload_n 35 1 rfl rfl ?_
      refine S.iload_n 36 2 rfl rfl ?_
      refine S.cVL (d := 24) (av := [.int l1, .int l2]) (rs := [.int l2, .int l1]) (b := 81) 37 rfl co_X12_346 rfl rfl rfl rfl rfl ⟨⟨Nat.le_of_ble_eq_true rfl, Nat.le_of_ble_eq_true rfl⟩, ⟨Nat.le_of_ble_eq_true rfl, Nat.le_of_ble_eq_true rfl⟩, Nat.le_of_ble_eq_true rfl⟩ (cm_X12_glowing b l1 l2 I12 J) (fun r13 I14 J15 => ?_)
      refine S.lload_n 38 3 rfl rfl ?_
      refine S.lcmp 39 rfl ?_
      refine S.jn (fun j => ∀ (y16 : Int32) (y17 : Int32), S (fI (zs b)) mX12_range (rmd 26 0 0) 0 0 (0, 0) 74 [(0, .ref 81), (1, .int l1), (2, .int l2), (3, .long l3), (5, .int l5), (7, .int l7)] [.int y17, .int y16] (zs b, I14, J15) (j y16 y17)) (fun y16 y17 => ?_) (fun j18 hj18 => ?_)
      · refine S.ior 46 rfl ?_
        refine S.nmi (fun x19 => ?_)
        refine S.istore [(6, .int x19), (0, .ref 81), (1, .int l1), (2, .int l2), (3, .long l3), (5, .int l5), (7, .int l7)] 47 rfl (by decide) rfl ?_
        refine S.iinc (l7 + 1) [(7, .int (l7 + 1)), (6, .int x19), (0, .ref 81), (1, .int l1), (2, .int l2), (3, .long l3), (5, .int l5)] 48 6 rfl rfl rfl (by decide) rfl ?_
        refine S.goto 38 49 rfl (by decide) ?_
        refine S.sub (lv' := [(0, .ref 81), (1, .int l1), (2, .int l2), (3, .long l3), (5, .int l5), (6, .int x19), (7, .int (l7 + 1))]) [2, 3, 4, 5, 6, 1, 0] rfl ?_
        exact ih _ _ _ _
      · refine S.if_ne 73 40 rfl (by decide) (fun _ => ?_) (fun _ => ?_)
        · refine S.iconst (0 : Int32) 45 rfl (by decide) ?_
          refine S.sub (lv' := [(0, .ref 81), (1, .int l1), (2, .int l2), (3, .long l3), (5, .int l5), (7, .int l7)]) [0, 1, 2, 3, 4, 6] rfl ?_
          exact hj18 _ _
        · refine S.iconst (1 : Int32) 41 rfl (by decide) ?_
          refine S.iload 42 6 rfl rfl ?_
          refine S.ishl 43 rfl ?_
          refine S.goto 74 44 rfl (by decide) ?_
          refine S.sub (lv' := [(0, .ref 81), (1, .int l1), (2, .int l2), (3, .long l3), (5, .int l5), (7, .int l7)]) [0, 1, 2, 3, 4, 6] rfl ?_
          exact hj18 _ _
def F_X12_range (l1 : Int32) (l2 : Int32) (I : HI) (J : HJ) : Option (Int32 × HI × HJ) :=
  lb (ui I m_self f_Model_thrown (0 : Int32)) fun I6 =>
  cp (F_X12_isSetting l1 l2 I6 J) fun r7 =>
  if r7 = 0 then
    some ((-1 : Int32), I6, J)
  else
    cl (F_X12_glowingWith (0 : Int32) l1 l2 I6 J) fun r8 I9 J10 =>
    bx (0 : Int32) 3 <|
    lb ((I9 m_sets (Int32.toNatClampNeg (0 : Int32)))) fun x11 =>
    F_X12_range_L38 l1 l2 r8 x11 (fun (y20 : Int32) (I21 : HI) (J22 : HJ) =>
    bx (0 : Int32) 3 <|
    lb (ui I21 m_sets (Int32.toNatClampNeg (0 : Int32)) x11) fun I23 =>
    some (y20, I23, J22)) bgf (0 : Int32) (1 : Int32) I9 J10
set_option maxRecDepth 100000 in
theorem cm_X12_range (b : Bool) (l1 : Int32) (l2 : Int32) (I : HI) (J : HJ) : CM mX12_range 26 0 0 [.ref 81, .int l1, .int l2] (zs b, I, J) (fI (zs b)) (F_X12_range l1 l2 I J) := by
  refine S.of okX12_range pn_X12 (Nat.le_of_ble_eq_true rfl) ?_
  refine S.sub (lv' := [(0, .ref 81), (1, .int l1), (2, .int l2)]) [0, 1, 2] rfl ?_
  unfold F_X12_range
  refine S.aload_n 0 0 rfl rfl ?_
  refine S.iconst (0 : Int32) 1 rfl (by decide) ?_
  refine S.putI 2 rfl fo_X12_159 rfl rfl rfl rfl (fun _ hq => by cases hq; exact Or.inl rfl) (fun I6 => ?_)
  refine S.aload_n 3 0 rfl rfl ?_
  refine S.iload_n 4 1 rfl rfl ?_
  refine S.iload_n 5 2 rfl rfl ?_
  refine S.qVI (d := 2) (av := [.int l1, .int l2]) (rs := [.int l2, .int l1]) (b := 81) 6 rfl co_X12_350 rfl rfl rfl rfl rfl ⟨⟨Nat.le_of_ble_eq_true rfl, Nat.le_of_ble_eq_true rfl⟩, ⟨Nat.le_of_ble_eq_true rfl, Nat.le_of_ble_eq_true rfl⟩, Nat.le_of_ble_eq_true rfl⟩ (cm_X12_isSetting b l1 l2 I6 J) (fun r7 => ?_)
  refine S.if_ne 16 7 rfl (by decide) (fun _ => ?_) (fun _ => ?_)
  · refine S.aload_n 10 0 rfl rfl ?_
    refine S.iconst (0 : Int32) 11 rfl (by decide) ?_
    refine S.iload_n 12 1 rfl rfl ?_
    refine S.iload_n 13 2 rfl rfl ?_
    refine S.cVL (d := 25) (av := [.int (0 : Int32), .int l1, .int l2]) (rs := [.int l2, .int l1, .int (0 : Int32)]) (b := 81) 14 rfl co_X12_353 rfl rfl rfl rfl rfl ⟨⟨Nat.le_of_ble_eq_true rfl, Nat.le_of_ble_eq_true rfl⟩, ⟨Nat.le_of_ble_eq_true rfl, Nat.le_of_ble_eq_true rfl⟩, Nat.le_of_ble_eq_true rfl⟩ (cm_X12_glowingWith b (0 : Int32) l1 l2 I6 J) (fun r8 I9 J10 => ?_)
    refine S.lstore_n [(3, .long r8), (0, .ref 81), (1, .int l1), (2, .int l2)] 15 rfl (by decide) rfl ?_
    refine S.aload_n 16 1 rfl rfl ?_
    refine S.getR 17 rfl fo_X12_26 rfl rfl rfl ?_
    refine S.iconst (0 : Int32) 18 rfl (by decide) ?_
    refine S.iald 19 rfl rfl ?_
    refine S.nmi (fun x11 => ?_)
    refine S.istore [(5, .int x11), (3, .long r8), (0, .ref 81), (1, .int l1), (2, .int l2)] 20 rfl (by decide) rfl ?_
    refine S.iconst (0 : Int32) 21 rfl (by decide) ?_
    refine S.istore [(6, .int (0 : Int32)), (5, .int x11), (3, .long r8), (0, .ref 81), (1, .int l1), (2, .int l2)] 22 rfl (by decide) rfl ?_
    refine S.iconst (1 : Int32) 23 rfl (by decide) ?_
    refine S.istore [(7, .int (1 : Int32)), (6, .int (0 : Int32)), (5, .int x11), (3, .long r8), (0, .ref 81), (1, .int l1), (2, .int l2)] 24 rfl (by decide) rfl ?_
    refine S.sub (lv' := [(0, .ref 81), (1, .int l1), (2, .int l2), (3, .long r8), (5, .int x11), (6, .int (0 : Int32)), (7, .int (1 : Int32))]) [4, 5, 6, 3, 2, 1, 0] rfl ?_
    refine s_X12_range_L38 b _ _ _ _ _ (fun y20 I21 J22 => ?_) bgf _ _ _ _
    refine S.aload_n 50 0 rfl rfl ?_
    refine S.getR 51 rfl fo_X12_26 rfl rfl rfl ?_
    refine S.iconst (0 : Int32) 52 rfl (by decide) ?_
    refine S.iload 53 1 rfl rfl ?_
    refine S.iast 54 rfl rfl (fun I23 => ?_)
    refine S.iload 55 2 rfl rfl ?_
    exact S.iret 56 rfl rfl rfl (Nat.le_refl _) (Nat.le_refl _) rfl
  · refine S.iconst (-1 : Int32) 8 rfl (by decide) ?_
    exact S.iret 9 rfl rfl rfl (Nat.le_refl _) (Nat.le_refl _) rfl
def F_X12_picture (l1 : Int32) (l2 : Int64) (I : HI) (J : HJ) : Option (Int32 × HI × HJ) :=
  lb (ui I m_self f_Model_thrown (0 : Int32)) fun I3 =>
  cp (F_X12_in (Int32.toInt64 l1) (0 : Int64) (3 : Int64)) fun r4 =>
  if r4 = 0 then
    some ((-1 : Int32), I3, J)
  else
    cp (F_X12_areLamps l2 I3 J) fun r5 =>
    if r5 = 0 then
      some ((-1 : Int32), I3, J)
    else
      bx l1 4 <|
      lb (uj J m_pictures (Int32.toNatClampNeg l1) l2) fun J6 =>
      cp (F_J13_bitCount_95d88 l2) fun r7 =>
      some (r7, I3, J6)
set_option maxRecDepth 100000 in
theorem cm_X12_picture (b : Bool) (l1 : Int32) (l2 : Int64) (I : HI) (J : HJ) : CM mX12_picture 3 0 0 [.ref 81, .int l1, .long l2] (zs b, I, J) (fI (zs b)) (F_X12_picture l1 l2 I J) := by
  refine S.of okX12_picture pn_X12 (Nat.le_of_ble_eq_true rfl) ?_
  refine S.sub (lv' := [(0, .ref 81), (1, .int l1), (2, .long l2)]) [0, 1, 2] rfl ?_
  unfold F_X12_picture
  refine S.aload_n 0 0 rfl rfl ?_
  refine S.iconst (0 : Int32) 1 rfl (by decide) ?_
  refine S.putI 2 rfl fo_X12_159 rfl rfl rfl rfl (fun _ hq => by cases hq; exact Or.inl rfl) (fun I3 => ?_)
  refine S.iload_n 3 1 rfl rfl ?_
  refine S.i2l 4 rfl ?_
  refine S.lconst (0 : Int64) 5 rfl (by decide) ?_
  refine S.ldc2 (3 : Int64) 6 rfl ko_X12_230 ?_
  refine S.qSI (d := 1) (av := [.long (Int32.toInt64 l1), .long (0 : Int64), .long (3 : Int64)]) (rs := [.long (3 : Int64), .long (0 : Int64), .long (Int32.toInt64 l1)]) 7 rfl co_X12_165 rfl rfl ⟨⟨Nat.le_of_ble_eq_true rfl, Nat.le_of_ble_eq_true rfl⟩, ⟨Nat.le_of_ble_eq_true rfl, Nat.le_of_ble_eq_true rfl⟩, Nat.le_of_ble_eq_true rfl⟩ (cm_X12_in (zs b, I3, J) (Int32.toInt64 l1) (0 : Int64) (3 : Int64)) (fun r4 => ?_)
  refine S.if_eq 25 8 rfl (by decide) (fun _ => ?_) (fun _ => ?_)
  · refine S.iconst (-1 : Int32) 13 rfl (by decide) ?_
    exact S.iret 14 rfl rfl rfl (Nat.le_refl _) (Nat.le_refl _) rfl
  · refine S.aload_n 9 0 rfl rfl ?_
    refine S.lload_n 10 2 rfl rfl ?_
    refine S.qVI (d := 2) (av := [.long l2]) (rs := [.long l2]) (b := 81) 11 rfl co_X12_393 rfl rfl rfl rfl rfl ⟨⟨Nat.le_of_ble_eq_true rfl, Nat.le_of_ble_eq_true rfl⟩, ⟨Nat.le_of_ble_eq_true rfl, Nat.le_of_ble_eq_true rfl⟩, Nat.le_of_ble_eq_true rfl⟩ (cm_X12_areLamps b l2 I3 J) (fun r5 => ?_)
    refine S.if_ne 27 12 rfl (by decide) (fun _ => ?_) (fun _ => ?_)
    · refine S.aload_n 15 0 rfl rfl ?_
      refine S.getR 16 rfl fo_X12_77 rfl rfl rfl ?_
      refine S.iload_n 17 1 rfl rfl ?_
      refine S.lload_n 18 2 rfl rfl ?_
      refine S.last 19 rfl rfl (fun J6 => ?_)
      refine S.lload_n 20 2 rfl rfl ?_
      refine S.qSI (d := 1) (av := [.long l2]) (rs := [.long l2]) 21 rfl co_X12_357 rfl rfl ⟨⟨Nat.le_of_ble_eq_true rfl, Nat.le_of_ble_eq_true rfl⟩, ⟨Nat.le_of_ble_eq_true rfl, Nat.le_of_ble_eq_true rfl⟩, Nat.le_of_ble_eq_true rfl⟩ (cm_J13_bitCount_95d88 (zs b, I3, J6) l2) (fun r7 => ?_)
      exact S.iret 22 rfl rfl rfl (Nat.le_refl _) (Nat.le_refl _) rfl
    · refine S.iconst (-1 : Int32) 13 rfl (by decide) ?_
      exact S.iret 14 rfl rfl rfl (Nat.le_refl _) (Nat.le_refl _) rfl
def F_X12_refusal (l1 : Int32) (I : HI) (J : HJ) : Option Int32 :=
  cp (F_X12_in (Int32.toInt64 l1) (0 : Int64) (3 : Int64)) fun r1 =>
  if r1 = 0 then
    some (-1 : Int32)
  else
    cp (F_X12_canSearch I J) fun r2 =>
    if r2 = 0 then
      some (-3 : Int32)
    else
      bx l1 4 <|
      cp (F_J13_bitCount_95d88 (J m_pictures (Int32.toNatClampNeg l1))) fun r3 =>
      if r3 ≤ (12 : Int32) then
        some (0 : Int32)
      else
        some (-4 : Int32)
set_option maxRecDepth 100000 in
theorem cm_X12_refusal (b : Bool) (l1 : Int32) (I : HI) (J : HJ) : CM mX12_refusal 2 0 0 [.ref 81, .int l1] (zs b, I, J) (pI (zs b, I, J)) (F_X12_refusal l1 I J) := by
  refine S.of okX12_refusal pn_X12 (Nat.le_of_ble_eq_true rfl) ?_
  refine S.sub (lv' := [(0, .ref 81), (1, .int l1)]) [0, 1] rfl ?_
  unfold F_X12_refusal
  refine S.iload_n 0 1 rfl rfl ?_
  refine S.i2l 1 rfl ?_
  refine S.lconst (0 : Int64) 2 rfl (by decide) ?_
  refine S.ldc2 (3 : Int64) 3 rfl ko_X12_230 ?_
  refine S.qSI (d := 1) (av := [.long (Int32.toInt64 l1), .long (0 : Int64), .long (3 : Int64)]) (rs := [.long (3 : Int64), .long (0 : Int64), .long (Int32.toInt64 l1)]) 4 rfl co_X12_165 rfl rfl ⟨⟨Nat.le_of_ble_eq_true rfl, Nat.le_of_ble_eq_true rfl⟩, ⟨Nat.le_of_ble_eq_true rfl, Nat.le_of_ble_eq_true rfl⟩, Nat.le_of_ble_eq_true rfl⟩ (cm_X12_in (zs b, I, J) (Int32.toInt64 l1) (0 : Int64) (3 : Int64)) (fun r1 => ?_)
  refine S.if_ne 14 5 rfl (by decide) (fun _ => ?_) (fun _ => ?_)
  · refine S.aload_n 8 0 rfl rfl ?_
    refine S.qVI (d := 1) (av := []) (rs := []) (b := 81) 9 rfl co_X12_397 rfl rfl rfl rfl rfl ⟨⟨Nat.le_of_ble_eq_true rfl, Nat.le_of_ble_eq_true rfl⟩, ⟨Nat.le_of_ble_eq_true rfl, Nat.le_of_ble_eq_true rfl⟩, Nat.le_of_ble_eq_true rfl⟩ (cm_X12_canSearch b I J) (fun r2 => ?_)
    refine S.if_ne 24 10 rfl (by decide) (fun _ => ?_) (fun _ => ?_)
    · refine S.aload_n 13 0 rfl rfl ?_
      refine S.getR 14 rfl fo_X12_77 rfl rfl rfl ?_
      refine S.iload_n 15 1 rfl rfl ?_
      refine S.lald 16 rfl rfl ?_
      refine S.qSI (d := 1) (av := [.long (J m_pictures (Int32.toNatClampNeg l1))]) (rs := [.long (J m_pictures (Int32.toNatClampNeg l1))]) 17 rfl co_X12_357 rfl rfl ⟨⟨Nat.le_of_ble_eq_true rfl, Nat.le_of_ble_eq_true rfl⟩, ⟨Nat.le_of_ble_eq_true rfl, Nat.le_of_ble_eq_true rfl⟩, Nat.le_of_ble_eq_true rfl⟩ (cm_J13_bitCount_95d88 (zs b, I, J) (J m_pictures (Int32.toNatClampNeg l1))) (fun r3 => ?_)
      refine S.bipush (12 : Int32) 18 rfl (by decide) ?_
      refine S.icmp_le 43 19 rfl (by decide) (fun _ => ?_) (fun _ => ?_)
      · refine S.iconst (0 : Int32) 22 rfl (by decide) ?_
        exact S.iret 23 rfl rfl rfl (Nat.le_refl _) (Nat.le_refl _) rfl
      · refine S.bipush (-4 : Int32) 20 rfl (by decide) ?_
        refine S.goto 44 21 rfl (by decide) ?_
        exact S.iret 23 rfl rfl rfl (Nat.le_refl _) (Nat.le_refl _) rfl
    · refine S.bipush (-3 : Int32) 11 rfl (by decide) ?_
      exact S.iret 12 rfl rfl rfl (Nat.le_refl _) (Nat.le_refl _) rfl
  · refine S.iconst (-1 : Int32) 6 rfl (by decide) ?_
    exact S.iret 7 rfl rfl rfl (Nat.le_refl _) (Nat.le_refl _) rfl
def F_X12_isTurn (l1 : Int32) (l2 : Int64) (I : HI) (J : HJ) : Option Int32 :=
  bx l1 2187 <|
  if (lg_cmp (J m_glow (Int32.toNatClampNeg l1)) (0 : Int64)) = 0 then
    some (0 : Int32)
  else
    bx l1 2187 <|
    if (lg_cmp ((J m_glow (Int32.toNatClampNeg l1)) &&& (l2 ^^^ (-1 : Int64))) (0 : Int64)) = 0 then
      bx l1 2187 <|
      if (I m_isGhostly (Int32.toNatClampNeg l1)) = 0 then
        some (1 : Int32)
      else
        some (0 : Int32)
    else
      some (0 : Int32)
set_option maxRecDepth 100000 in
theorem cm_X12_isTurn (b : Bool) (l1 : Int32) (l2 : Int64) (I : HI) (J : HJ) : CM mX12_isTurn 1 0 0 [.ref 81, .int l1, .long l2] (zs b, I, J) (pI (zs b, I, J)) (F_X12_isTurn l1 l2 I J) := by
  refine S.of okX12_isTurn pn_X12 (Nat.le_of_ble_eq_true rfl) ?_
  refine S.sub (lv' := [(0, .ref 81), (1, .int l1), (2, .long l2)]) [0, 1, 2] rfl ?_
  unfold F_X12_isTurn
  refine S.aload_n 0 0 rfl rfl ?_
  refine S.getR 1 rfl fo_X12_70 rfl rfl rfl ?_
  refine S.iload_n 2 1 rfl rfl ?_
  refine S.lald 3 rfl rfl ?_
  refine S.lconst (0 : Int64) 4 rfl (by decide) ?_
  refine S.lcmp 5 rfl ?_
  refine S.if_eq 41 6 rfl (by decide) (fun _ => ?_) (fun _ => ?_)
  · refine S.iconst (0 : Int32) 25 rfl (by decide) ?_
    exact S.iret 26 rfl rfl rfl (Nat.le_refl _) (Nat.le_refl _) rfl
  · refine S.aload_n 7 0 rfl rfl ?_
    refine S.getR 8 rfl fo_X12_70 rfl rfl rfl ?_
    refine S.iload_n 9 1 rfl rfl ?_
    refine S.lald 10 rfl rfl ?_
    refine S.lload_n 11 2 rfl rfl ?_
    refine S.ldc2 (-1 : Int64) 12 rfl ko_X12_366 ?_
    refine S.lxor 13 rfl ?_
    refine S.land 14 rfl ?_
    refine S.lconst (0 : Int64) 15 rfl (by decide) ?_
    refine S.lcmp 16 rfl ?_
    refine S.if_ne 41 17 rfl (by decide) (fun _ => ?_) (fun _ => ?_)
    · refine S.iconst (0 : Int32) 25 rfl (by decide) ?_
      exact S.iret 26 rfl rfl rfl (Nat.le_refl _) (Nat.le_refl _) rfl
    · refine S.aload_n 18 0 rfl rfl ?_
      refine S.getR 19 rfl fo_X12_73 rfl rfl rfl ?_
      refine S.iload_n 20 1 rfl rfl ?_
      refine S.zald 21 rfl rfl ?_
      refine S.if_ne 41 22 rfl (by decide) (fun _ => ?_) (fun _ => ?_)
      · refine S.iconst (0 : Int32) 25 rfl (by decide) ?_
        exact S.iret 26 rfl rfl rfl (Nat.le_refl _) (Nat.le_refl _) rfl
      · refine S.iconst (1 : Int32) 23 rfl (by decide) ?_
        refine S.goto 42 24 rfl (by decide) ?_
        exact S.iret 26 rfl rfl rfl (Nat.le_refl _) (Nat.le_refl _) rfl
def F_X12_findTurns_L11 (l1 : Int64) (J : HJ) (kx56 : HI → Option (Unit × HI × HJ)) : Nat → Int32 → HI → Option (Unit × HI × HJ)
  | 0, _, _ => none
  | K+1, l3, I =>
    if (I m_self f_Model_lamps) ≤ l3 then
      kx56 I
    else
      cp (F_X12_has l1 l3) fun r9 =>
      lb (fun (I10 : HI) =>
      F_X12_findTurns_L11 l1 J kx56 K (l3 + 1) I10) fun j11 =>
      if r9 = 0 then
        j11 I
      else
        bx (I m_self f_Model_members) 12 <|
        lb (ui I m_member (Int32.toNatClampNeg (I m_self f_Model_members)) l3) fun I12 =>
        lb (ui I12 m_self f_Model_members ((I12 m_self f_Model_members) + (1 : Int32))) fun I13 =>
        j11 I13
set_option maxRecDepth 100000 in
theorem s_X12_findTurns_L11 (b : Bool) (l1 : Int64) (J : HJ) (kx56 : HI → Option (Unit × HI × HJ)) (hkx56 : ∀ (I1 : HI), S (fV (zs b)) mX12_findTurns (rmd 27 0 0) 0 0 (0, 0) 56 [(0, .ref 81), (1, .long l1)] [] (zs b, I1, J) (kx56 I1)) : ∀ (K : Nat) (l3 : Int32) (I : HI), S (fV (zs b)) mX12_findTurns (rmd 27 0 0) 0 0 (0, 0) 11 [(0, .ref 81), (1, .long l1), (3, .int l3)] [] (zs b, I, J) (F_X12_findTurns_L11 l1 J kx56 K l3 I) := by
  intro K
  induction K with
  | zero => intro l3 I; exact S.none
  | succ K ih =>
    intro l3 I
    rw [F_X12_findTurns_L11]
    refine S.iload_n 7 2 rfl rfl ?_
    refine S.aload_n 8 0 rfl rfl ?_
    refine S.getI 9 rfl fo_X12_169 rfl rfl ?_
    refine S.icmp_ge 56 10 rfl (by decide) (fun _ => ?_) (fun _ => ?_)
    · refine S.sub (lv' := [(0, .ref 81), (1, .long l1)]) [0, 1] rfl ?_
      exact hkx56 _
    · refine S.lload_n 11 1 rfl rfl ?_
      refine S.iload_n 12 2 rfl rfl ?_
      refine S.qSI (d := 1) (av := [.long l1, .int l3]) (rs := [.int l3, .long l1]) 13 rfl co_X12_294 rfl rfl ⟨⟨Nat.le_of_ble_eq_true rfl, Nat.le_of_ble_eq_true rfl⟩, ⟨Nat.le_of_ble_eq_true rfl, Nat.le_of_ble_eq_true rfl⟩, Nat.le_of_ble_eq_true rfl⟩ (cm_X12_has (zs b, I, J) l1 l3) (fun r9 => ?_)
      refine S.jn (fun j => ∀ (I10 : HI), S (fV (zs b)) mX12_findTurns (rmd 27 0 0) 0 0 (0, 0) 50 [(0, .ref 81), (1, .long l1), (3, .int l3)] [] (zs b, I10, J) (j I10)) (fun I10 => ?_) (fun j11 hj11 => ?_)
      · refine S.iinc (l3 + 1) [(3, .int (l3 + 1)), (0, .ref 81), (1, .long l1)] 28 2 rfl rfl rfl (by decide) rfl ?_
        refine S.goto 11 29 rfl (by decide) ?_
        refine S.sub (lv' := [(0, .ref 81), (1, .long l1), (3, .int (l3 + 1))]) [1, 2, 0] rfl ?_
        exact ih _ _
      · refine S.if_ne 30 14 rfl (by decide) (fun _ => ?_) (fun _ => ?_)
        · refine S.aload_n 16 0 rfl rfl ?_
          refine S.getR 17 rfl fo_X12_80 rfl rfl rfl ?_
          refine S.aload_n 18 0 rfl rfl ?_
          refine S.getI 19 rfl fo_X12_409 rfl rfl ?_
          refine S.iload_n 20 2 rfl rfl ?_
          refine S.iast 21 rfl rfl (fun I12 => ?_)
          refine S.aload_n 22 0 rfl rfl ?_
          refine S.dup 23 rfl rfl ?_
          refine S.getI 24 rfl fo_X12_409 rfl rfl ?_
          refine S.iconst (1 : Int32) 25 rfl (by decide) ?_
          refine S.iadd 26 rfl ?_
          refine S.putI 27 rfl fo_X12_409 rfl rfl rfl rfl (fun _ hq => by cases hq; exact Or.inl rfl) (fun I13 => ?_)
          exact hj11 _
        · refine S.goto 50 15 rfl (by decide) ?_
          exact hj11 _
def F_X12_findTurns_L76 (l1 : Int64) (l3 : Int32) (J : HJ) (kx136 : HI → Option (Unit × HI × HJ)) : Nat → Int32 → HI → Option (Unit × HI × HJ)
  | 0, _, _ => none
  | K+1, l4, I =>
    if (I m_self f_Model_members) ≤ l4 then
      kx136 I
    else
      cp (F_X12_isTurn l3 l1 I J) fun r17 =>
      if r17 = 0 then
        kx136 I
      else
        bx l3 2187 <|
        bx l3 2187 <|
        bx l4 12 <|
        cp (F_X12_has (J m_glow (Int32.toNatClampNeg l3)) (I m_member (Int32.toNatClampNeg l4))) fun r18 =>
        lb (fun (y19 : Int32) (y20 : Int32) (y21 : Int32) =>
        bx y19 2187 <|
        lb (ui I m_shownBy (Int32.toNatClampNeg y19) (y20 ||| y21)) fun I23 =>
        F_X12_findTurns_L76 l1 l3 J kx136 K (l4 + 1) I23) fun j22 =>
        if r18 = 0 then
          j22 l3 (I m_shownBy (Int32.toNatClampNeg l3)) (0 : Int32)
        else
          j22 l3 (I m_shownBy (Int32.toNatClampNeg l3)) (oshl (1 : Int32) l4)
set_option maxRecDepth 100000 in
theorem s_X12_findTurns_L76 (b : Bool) (l1 : Int64) (l3 : Int32) (J : HJ) (kx136 : HI → Option (Unit × HI × HJ)) (hkx136 : ∀ (I1 : HI), S (fV (zs b)) mX12_findTurns (rmd 27 0 0) 0 0 (0, 0) 136 [(0, .ref 81), (1, .long l1), (3, .int l3)] [] (zs b, I1, J) (kx136 I1)) : ∀ (K : Nat) (l4 : Int32) (I : HI), S (fV (zs b)) mX12_findTurns (rmd 27 0 0) 0 0 (0, 0) 76 [(0, .ref 81), (1, .long l1), (3, .int l3), (4, .int l4)] [] (zs b, I, J) (F_X12_findTurns_L76 l1 l3 J kx136 K l4 I) := by
  intro K
  induction K with
  | zero => intro l4 I; exact S.none
  | succ K ih =>
    intro l4 I
    rw [F_X12_findTurns_L76]
    refine S.iload 43 3 rfl rfl ?_
    refine S.aload_n 44 0 rfl rfl ?_
    refine S.getI 45 rfl fo_X12_409 rfl rfl ?_
    refine S.icmp_ge 136 46 rfl (by decide) (fun _ => ?_) (fun _ => ?_)
    · refine S.sub (lv' := [(0, .ref 81), (1, .long l1), (3, .int l3)]) [0, 1, 2] rfl ?_
      exact hkx136 _
    · refine S.aload_n 47 0 rfl rfl ?_
      refine S.iload_n 48 2 rfl rfl ?_
      refine S.lload_n 49 1 rfl rfl ?_
      refine S.qVI (d := 1) (av := [.int l3, .long l1]) (rs := [.long l1, .int l3]) (b := 81) 50 rfl co_X12_412 rfl rfl rfl rfl rfl ⟨⟨Nat.le_of_ble_eq_true rfl, Nat.le_of_ble_eq_true rfl⟩, ⟨Nat.le_of_ble_eq_true rfl, Nat.le_of_ble_eq_true rfl⟩, Nat.le_of_ble_eq_true rfl⟩ (cm_X12_isTurn b l3 l1 I J) (fun r17 => ?_)
      refine S.if_eq 136 51 rfl (by decide) (fun _ => ?_) (fun _ => ?_)
      · refine S.sub (lv' := [(0, .ref 81), (1, .long l1), (3, .int l3)]) [0, 1, 2] rfl ?_
        exact hkx136 _
      · refine S.aload_n 52 0 rfl rfl ?_
        refine S.getR 53 rfl fo_X12_83 rfl rfl rfl ?_
        refine S.iload_n 54 2 rfl rfl ?_
        refine S.dup2_11 55 rfl rfl rfl ?_
        refine S.iald 56 rfl rfl ?_
        refine S.aload_n 57 0 rfl rfl ?_
        refine S.getR 58 rfl fo_X12_70 rfl rfl rfl ?_
        refine S.iload_n 59 2 rfl rfl ?_
        refine S.lald 60 rfl rfl ?_
        refine S.aload_n 61 0 rfl rfl ?_
        refine S.getR 62 rfl fo_X12_80 rfl rfl rfl ?_
        refine S.iload 63 3 rfl rfl ?_
        refine S.iald 64 rfl rfl ?_
        refine S.qSI (d := 1) (av := [.long (J m_glow (Int32.toNatClampNeg l3)), .int (I m_member (Int32.toNatClampNeg l4))]) (rs := [.int (I m_member (Int32.toNatClampNeg l4)), .long (J m_glow (Int32.toNatClampNeg l3))]) 65 rfl co_X12_294 rfl rfl ⟨⟨Nat.le_of_ble_eq_true rfl, Nat.le_of_ble_eq_true rfl⟩, ⟨Nat.le_of_ble_eq_true rfl, Nat.le_of_ble_eq_true rfl⟩, Nat.le_of_ble_eq_true rfl⟩ (cm_X12_has (zs b, I, J) (J m_glow (Int32.toNatClampNeg l3)) (I m_member (Int32.toNatClampNeg l4))) (fun r18 => ?_)
        refine S.jn (fun j => ∀ (y19 : Int32) (y20 : Int32) (y21 : Int32), S (fV (zs b)) mX12_findTurns (rmd 27 0 0) 0 0 (0, 0) 128 [(0, .ref 81), (1, .long l1), (3, .int l3), (4, .int l4)] [.int y21, .int y20, .int y19, .ref 103] (zs b, I, J) (j y19 y20 y21)) (fun y19 y20 y21 => ?_) (fun j22 hj22 => ?_)
        · refine S.ior 72 rfl ?_
          refine S.iast 73 rfl rfl (fun I23 => ?_)
          refine S.iinc (l4 + 1) [(4, .int (l4 + 1)), (0, .ref 81), (1, .long l1), (3, .int l3)] 74 3 rfl rfl rfl (by decide) rfl ?_
          refine S.goto 76 75 rfl (by decide) ?_
          refine S.sub (lv' := [(0, .ref 81), (1, .long l1), (3, .int l3), (4, .int (l4 + 1))]) [1, 2, 3, 0] rfl ?_
          exact ih _ _
        · refine S.if_eq 127 66 rfl (by decide) (fun _ => ?_) (fun _ => ?_)
          · refine S.iconst (0 : Int32) 71 rfl (by decide) ?_
            exact hj22 _ _ _
          · refine S.iconst (1 : Int32) 67 rfl (by decide) ?_
            refine S.iload 68 3 rfl rfl ?_
            refine S.ishl 69 rfl ?_
            refine S.goto 128 70 rfl (by decide) ?_
            exact hj22 _ _ _
def F_X12_findTurns_L58 (l1 : Int64) (J : HJ) : Nat → Int32 → HI → Option (Unit × HI × HJ)
  | 0, _, _ => none
  | K+1, l3, I =>
    cp (F_X12_settings I J) fun r15 =>
    if r15 ≤ l3 then
      some ((), I, J)
    else
      bx l3 2187 <|
      lb (ui I m_shownBy (Int32.toNatClampNeg l3) (0 : Int32)) fun I16 =>
      F_X12_findTurns_L76 l1 l3 J (fun (I24 : HI) =>
      F_X12_findTurns_L58 l1 J K (l3 + 1) I24) bgf (0 : Int32) I16
set_option maxRecDepth 100000 in
theorem s_X12_findTurns_L58 (b : Bool) (l1 : Int64) (J : HJ) : ∀ (K : Nat) (l3 : Int32) (I : HI), S (fV (zs b)) mX12_findTurns (rmd 27 0 0) 0 0 (0, 0) 58 [(0, .ref 81), (1, .long l1), (3, .int l3)] [] (zs b, I, J) (F_X12_findTurns_L58 l1 J K l3 I) := by
  intro K
  induction K with
  | zero => intro l3 I; exact S.none
  | succ K ih =>
    intro l3 I
    rw [F_X12_findTurns_L58]
    refine S.iload_n 32 2 rfl rfl ?_
    refine S.aload_n 33 0 rfl rfl ?_
    refine S.qVI (d := 1) (av := []) (rs := []) (b := 81) 34 rfl co_X12_380 rfl rfl rfl rfl rfl ⟨⟨Nat.le_of_ble_eq_true rfl, Nat.le_of_ble_eq_true rfl⟩, ⟨Nat.le_of_ble_eq_true rfl, Nat.le_of_ble_eq_true rfl⟩, Nat.le_of_ble_eq_true rfl⟩ (cm_X12_settings b I J) (fun r15 => ?_)
    refine S.icmp_ge 142 35 rfl (by decide) (fun _ => ?_) (fun _ => ?_)
    · exact S.vret 78 rfl rfl (Nat.le_refl _) (Nat.le_refl _) rfl
    · refine S.aload_n 36 0 rfl rfl ?_
      refine S.getR 37 rfl fo_X12_83 rfl rfl rfl ?_
      refine S.iload_n 38 2 rfl rfl ?_
      refine S.iconst (0 : Int32) 39 rfl (by decide) ?_
      refine S.iast 40 rfl rfl (fun I16 => ?_)
      refine S.iconst (0 : Int32) 41 rfl (by decide) ?_
      refine S.istore [(4, .int (0 : Int32)), (0, .ref 81), (1, .long l1), (3, .int l3)] 42 rfl (by decide) rfl ?_
      refine S.sub (lv' := [(0, .ref 81), (1, .long l1), (3, .int l3), (4, .int (0 : Int32))]) [1, 2, 3, 0] rfl ?_
      refine s_X12_findTurns_L76 b _ _ _ _ (fun I24 => ?_) bgf _ _
      refine S.iinc (l3 + 1) [(3, .int (l3 + 1)), (0, .ref 81), (1, .long l1)] 76 2 rfl rfl rfl (by decide) rfl ?_
      refine S.goto 58 77 rfl (by decide) ?_
      refine S.sub (lv' := [(0, .ref 81), (1, .long l1), (3, .int (l3 + 1))]) [1, 2, 0] rfl ?_
      exact ih _ _
def F_X12_findTurns (l1 : Int64) (I : HI) (J : HJ) : Option (Unit × HI × HJ) :=
  cl (F_X12_findAll I J) fun _ I6 J7 =>
  lb (ui I6 m_self f_Model_members (0 : Int32)) fun I8 =>
  F_X12_findTurns_L11 l1 J7 (fun (I14 : HI) =>
  F_X12_findTurns_L58 l1 J7 bgf (0 : Int32) I14) bgf (0 : Int32) I8
set_option maxRecDepth 100000 in
theorem cm_X12_findTurns (b : Bool) (l1 : Int64) (I : HI) (J : HJ) : CM mX12_findTurns 27 0 0 [.ref 81, .long l1] (zs b, I, J) (fV (zs b)) (F_X12_findTurns l1 I J) := by
  refine S.of okX12_findTurns pn_X12 (Nat.le_of_ble_eq_true rfl) ?_
  refine S.sub (lv' := [(0, .ref 81), (1, .long l1)]) [0, 1] rfl ?_
  unfold F_X12_findTurns
  refine S.aload_n 0 0 rfl rfl ?_
  refine S.cVV (d := 26) (av := []) (rs := []) (b := 81) 1 rfl co_X12_401 rfl rfl rfl rfl rfl ⟨⟨Nat.le_of_ble_eq_true rfl, Nat.le_of_ble_eq_true rfl⟩, ⟨Nat.le_of_ble_eq_true rfl, Nat.le_of_ble_eq_true rfl⟩, Nat.le_of_ble_eq_true rfl⟩ (cm_X12_findAll b I J) (fun _ I6 J7 => ?_)
  refine S.aload_n 2 0 rfl rfl ?_
  refine S.iconst (0 : Int32) 3 rfl (by decide) ?_
  refine S.putI 4 rfl fo_X12_409 rfl rfl rfl rfl (fun _ hq => by cases hq; exact Or.inl rfl) (fun I8 => ?_)
  refine S.iconst (0 : Int32) 5 rfl (by decide) ?_
  refine S.istore_n [(3, .int (0 : Int32)), (0, .ref 81), (1, .long l1)] 6 rfl (by decide) rfl ?_
  refine S.sub (lv' := [(0, .ref 81), (1, .long l1), (3, .int (0 : Int32))]) [1, 2, 0] rfl ?_
  refine s_X12_findTurns_L11 b _ _ _ (fun I14 => ?_) bgf _ _
  refine S.iconst (0 : Int32) 30 rfl (by decide) ?_
  refine S.istore_n [(3, .int (0 : Int32)), (0, .ref 81), (1, .long l1)] 31 rfl (by decide) rfl ?_
  refine S.sub (lv' := [(0, .ref 81), (1, .long l1), (3, .int (0 : Int32))]) [1, 2, 0] rfl ?_
  refine s_X12_findTurns_L58 b _ _ bgf _ _
def F_X12_findParted_L23 (l3 : Int32) (l4 : Int32) (J : HJ) (kx43 : HI → Option (Int32 × HI × HJ)) : Nat → Int32 → HI → Option (Int32 × HI × HJ)
  | 0, _, _ => none
  | K+1, l5, I =>
    if l3 < l5 then
      kx43 I
    else
      bx l5 4096 <|
      lb (ui I m_firstBy (Int32.toNatClampNeg l5) (-1 : Int32)) fun I19 =>
      F_X12_findParted_L23 l3 l4 J kx43 K (l5 + 1) I19
set_option maxRecDepth 100000 in
theorem s_X12_findParted_L23 (b : Bool) (l3 : Int32) (l4 : Int32) (J : HJ) (kx43 : HI → Option (Int32 × HI × HJ)) (hkx43 : ∀ (I1 : HI), S (fI (zs b)) mX12_findParted (rmd 28 0 0) 0 0 (0, 0) 43 [(0, .ref 81), (3, .int l3), (4, .int l4)] [] (zs b, I1, J) (kx43 I1)) : ∀ (K : Nat) (l5 : Int32) (I : HI), S (fI (zs b)) mX12_findParted (rmd 28 0 0) 0 0 (0, 0) 23 [(0, .ref 81), (3, .int l3), (4, .int l4), (5, .int l5)] [] (zs b, I, J) (F_X12_findParted_L23 l3 l4 J kx43 K l5 I) := by
  intro K
  induction K with
  | zero => intro l5 I; exact S.none
  | succ K ih =>
    intro l5 I
    rw [F_X12_findParted_L23]
    refine S.iload 15 3 rfl rfl ?_
    refine S.iload_n 16 1 rfl rfl ?_
    refine S.icmp_gt 43 17 rfl (by decide) (fun _ => ?_) (fun _ => ?_)
    · refine S.sub (lv' := [(0, .ref 81), (3, .int l3), (4, .int l4)]) [0, 1, 2] rfl ?_
      exact hkx43 _
    · refine S.aload_n 18 0 rfl rfl ?_
      refine S.getR 19 rfl fo_X12_89 rfl rfl rfl ?_
      refine S.iload 20 3 rfl rfl ?_
      refine S.iconst (-1 : Int32) 21 rfl (by decide) ?_
      refine S.iast 22 rfl rfl (fun I19 => ?_)
      refine S.iinc (l5 + 1) [(5, .int (l5 + 1)), (0, .ref 81), (3, .int l3), (4, .int l4)] 23 3 rfl rfl rfl (by decide) rfl ?_
      refine S.goto 23 24 rfl (by decide) ?_
      refine S.sub (lv' := [(0, .ref 81), (3, .int l3), (4, .int l4), (5, .int (l5 + 1))]) [1, 2, 3, 0] rfl ?_
      exact ih _ _
def F_X12_findParted_L49 (l3 : Int32) (l4 : Int32) (J : HJ) (kx74 : HI → Option (Int32 × HI × HJ)) : Nat → Int32 → HI → Option (Int32 × HI × HJ)
  | 0, _, _ => none
  | K+1, l5, I =>
    if l5 < 0 then
      kx74 I
    else
      bx l5 2187 <|
      bx (I m_shownBy (Int32.toNatClampNeg l5)) 4096 <|
      lb (ui I m_firstBy (Int32.toNatClampNeg (I m_shownBy (Int32.toNatClampNeg l5))) l5) fun I22 =>
      F_X12_findParted_L49 l3 l4 J kx74 K (l5 + (-1)) I22
set_option maxRecDepth 100000 in
theorem s_X12_findParted_L49 (b : Bool) (l3 : Int32) (l4 : Int32) (J : HJ) (kx74 : HI → Option (Int32 × HI × HJ)) (hkx74 : ∀ (I1 : HI), S (fI (zs b)) mX12_findParted (rmd 28 0 0) 0 0 (0, 0) 74 [(0, .ref 81), (3, .int l3), (4, .int l4)] [] (zs b, I1, J) (kx74 I1)) : ∀ (K : Nat) (l5 : Int32) (I : HI), S (fI (zs b)) mX12_findParted (rmd 28 0 0) 0 0 (0, 0) 49 [(0, .ref 81), (3, .int l3), (4, .int l4), (5, .int l5)] [] (zs b, I, J) (F_X12_findParted_L49 l3 l4 J kx74 K l5 I) := by
  intro K
  induction K with
  | zero => intro l5 I; exact S.none
  | succ K ih =>
    intro l5 I
    rw [F_X12_findParted_L49]
    refine S.iload 29 3 rfl rfl ?_
    refine S.if_lt 74 30 rfl (by decide) (fun _ => ?_) (fun _ => ?_)
    · refine S.sub (lv' := [(0, .ref 81), (3, .int l3), (4, .int l4)]) [0, 1, 2] rfl ?_
      exact hkx74 _
    · refine S.aload_n 31 0 rfl rfl ?_
      refine S.getR 32 rfl fo_X12_89 rfl rfl rfl ?_
      refine S.aload_n 33 0 rfl rfl ?_
      refine S.getR 34 rfl fo_X12_83 rfl rfl rfl ?_
      refine S.iload 35 3 rfl rfl ?_
      refine S.iald 36 rfl rfl ?_
      refine S.iload 37 3 rfl rfl ?_
      refine S.iast 38 rfl rfl (fun I22 => ?_)
      refine S.iinc (l5 + (-1)) [(5, .int (l5 + (-1))), (0, .ref 81), (3, .int l3), (4, .int l4)] 39 3 rfl rfl rfl (by decide) rfl ?_
      refine S.goto 49 40 rfl (by decide) ?_
      refine S.sub (lv' := [(0, .ref 81), (3, .int l3), (4, .int l4), (5, .int (l5 + (-1)))]) [1, 2, 3, 0] rfl ?_
      exact ih _ _
def F_X12_findParted_L104 (l3 : Int32) (l4 : Int32) (l5 : Int32) (J : HJ) (kx173 : HI → Option (Int32 × HI × HJ)) : Nat → Int32 → HI → Option (Int32 × HI × HJ)
  | 0, _, _ => none
  | K+1, l6, I =>
    if l3 < l6 then
      kx173 I
    else
      bx l6 4096 <|
      lb (fun (I26 : HI) =>
      F_X12_findParted_L104 l3 l4 l5 J kx173 K (l6 + 1) I26) fun j27 =>
      if (I m_firstBy (Int32.toNatClampNeg l6)) = (-1 : Int32) then
        j27 I
      else
        cp (F_X12_has (Int32.toInt64 l6) l5) fun r28 =>
        if r28 = 0 then
          j27 I
        else
          bx l5 12 <|
          bx (((2187 : Int32) * l5) + (I m_masksMany (Int32.toNatClampNeg l5))) 26244 <|
          lb (ui I m_masks (Int32.toNatClampNeg (((2187 : Int32) * l5) + (I m_masksMany (Int32.toNatClampNeg l5)))) l6) fun I29 =>
          bx l5 12 <|
          bx l5 12 <|
          lb (ui I29 m_masksMany (Int32.toNatClampNeg l5) ((I29 m_masksMany (Int32.toNatClampNeg l5)) + (1 : Int32))) fun I30 =>
          j27 I30
set_option maxRecDepth 100000 in
theorem s_X12_findParted_L104 (b : Bool) (l3 : Int32) (l4 : Int32) (l5 : Int32) (J : HJ) (kx173 : HI → Option (Int32 × HI × HJ)) (hkx173 : ∀ (I1 : HI), S (fI (zs b)) mX12_findParted (rmd 28 0 0) 0 0 (0, 0) 173 [(0, .ref 81), (3, .int l3), (4, .int l4), (5, .int l5)] [] (zs b, I1, J) (kx173 I1)) : ∀ (K : Nat) (l6 : Int32) (I : HI), S (fI (zs b)) mX12_findParted (rmd 28 0 0) 0 0 (0, 0) 104 [(0, .ref 81), (3, .int l3), (4, .int l4), (5, .int l5), (6, .int l6)] [] (zs b, I, J) (F_X12_findParted_L104 l3 l4 l5 J kx173 K l6 I) := by
  intro K
  induction K with
  | zero => intro l6 I; exact S.none
  | succ K ih =>
    intro l6 I
    rw [F_X12_findParted_L104]
    refine S.iload 59 4 rfl rfl ?_
    refine S.iload_n 60 1 rfl rfl ?_
    refine S.icmp_gt 173 61 rfl (by decide) (fun _ => ?_) (fun _ => ?_)
    · refine S.sub (lv' := [(0, .ref 81), (3, .int l3), (4, .int l4), (5, .int l5)]) [0, 1, 2, 3] rfl ?_
      exact hkx173 _
    · refine S.aload_n 62 0 rfl rfl ?_
      refine S.getR 63 rfl fo_X12_89 rfl rfl rfl ?_
      refine S.iload 64 4 rfl rfl ?_
      refine S.iald 65 rfl rfl ?_
      refine S.iconst (-1 : Int32) 66 rfl (by decide) ?_
      refine S.jn (fun j => ∀ (I26 : HI), S (fI (zs b)) mX12_findParted (rmd 28 0 0) 0 0 (0, 0) 167 [(0, .ref 81), (3, .int l3), (4, .int l4), (5, .int l5), (6, .int l6)] [] (zs b, I26, J) (j I26)) (fun I26 => ?_) (fun j27 hj27 => ?_)
      · refine S.iinc (l6 + 1) [(6, .int (l6 + 1)), (0, .ref 81), (3, .int l3), (4, .int l4), (5, .int l5)] 94 4 rfl rfl rfl (by decide) rfl ?_
        refine S.goto 104 95 rfl (by decide) ?_
        refine S.sub (lv' := [(0, .ref 81), (3, .int l3), (4, .int l4), (5, .int l5), (6, .int (l6 + 1))]) [1, 2, 3, 4, 0] rfl ?_
        exact ih _ _
      · refine S.icmp_eq 167 67 rfl (by decide) (fun _ => ?_) (fun _ => ?_)
        · exact hj27 _
        · refine S.iload 68 4 rfl rfl ?_
          refine S.i2l 69 rfl ?_
          refine S.iload 70 3 rfl rfl ?_
          refine S.qSI (d := 1) (av := [.long (Int32.toInt64 l6), .int l5]) (rs := [.int l5, .long (Int32.toInt64 l6)]) 71 rfl co_X12_294 rfl rfl ⟨⟨Nat.le_of_ble_eq_true rfl, Nat.le_of_ble_eq_true rfl⟩, ⟨Nat.le_of_ble_eq_true rfl, Nat.le_of_ble_eq_true rfl⟩, Nat.le_of_ble_eq_true rfl⟩ (cm_X12_has (zs b, I, J) (Int32.toInt64 l6) l5) (fun r28 => ?_)
          refine S.if_ne 135 72 rfl (by decide) (fun _ => ?_) (fun _ => ?_)
          · refine S.aload_n 74 0 rfl rfl ?_
            refine S.getR 75 rfl fo_X12_92 rfl rfl rfl ?_
            refine S.sipush (2187 : Int32) 76 rfl (by decide) ?_
            refine S.iload 77 3 rfl rfl ?_
            refine S.imul 78 rfl ?_
            refine S.aload_n 79 0 rfl rfl ?_
            refine S.getR 80 rfl fo_X12_95 rfl rfl rfl ?_
            refine S.iload 81 3 rfl rfl ?_
            refine S.iald 82 rfl rfl ?_
            refine S.iadd 83 rfl ?_
            refine S.iload 84 4 rfl rfl ?_
            refine S.iast 85 rfl rfl (fun I29 => ?_)
            refine S.aload_n 86 0 rfl rfl ?_
            refine S.getR 87 rfl fo_X12_95 rfl rfl rfl ?_
            refine S.iload 88 3 rfl rfl ?_
            refine S.dup2_11 89 rfl rfl rfl ?_
            refine S.iald 90 rfl rfl ?_
            refine S.iconst (1 : Int32) 91 rfl (by decide) ?_
            refine S.iadd 92 rfl ?_
            refine S.iast 93 rfl rfl (fun I30 => ?_)
            exact hj27 _
          · refine S.goto 167 73 rfl (by decide) ?_
            exact hj27 _
def F_X12_findParted_L84 (l3 : Int32) (l4 : Int32) (J : HJ) (kx179 : HI → Option (Int32 × HI × HJ)) : Nat → Int32 → HI → Option (Int32 × HI × HJ)
  | 0, _, _ => none
  | K+1, l5, I =>
    if (I m_self f_Model_members) ≤ l5 then
      kx179 I
    else
      bx l5 12 <|
      lb (ui I m_masksMany (Int32.toNatClampNeg l5) (0 : Int32)) fun I25 =>
      F_X12_findParted_L104 l3 l4 l5 J (fun (I31 : HI) =>
      F_X12_findParted_L84 l3 l4 J kx179 K (l5 + 1) I31) bgf (1 : Int32) I25
set_option maxRecDepth 100000 in
theorem s_X12_findParted_L84 (b : Bool) (l3 : Int32) (l4 : Int32) (J : HJ) (kx179 : HI → Option (Int32 × HI × HJ)) (hkx179 : ∀ (I1 : HI), S (fI (zs b)) mX12_findParted (rmd 28 0 0) 0 0 (0, 0) 179 [(0, .ref 81), (3, .int l3), (4, .int l4)] [] (zs b, I1, J) (kx179 I1)) : ∀ (K : Nat) (l5 : Int32) (I : HI), S (fI (zs b)) mX12_findParted (rmd 28 0 0) 0 0 (0, 0) 84 [(0, .ref 81), (3, .int l3), (4, .int l4), (5, .int l5)] [] (zs b, I, J) (F_X12_findParted_L84 l3 l4 J kx179 K l5 I) := by
  intro K
  induction K with
  | zero => intro l5 I; exact S.none
  | succ K ih =>
    intro l5 I
    rw [F_X12_findParted_L84]
    refine S.iload 48 3 rfl rfl ?_
    refine S.aload_n 49 0 rfl rfl ?_
    refine S.getI 50 rfl fo_X12_409 rfl rfl ?_
    refine S.icmp_ge 179 51 rfl (by decide) (fun _ => ?_) (fun _ => ?_)
    · refine S.sub (lv' := [(0, .ref 81), (3, .int l3), (4, .int l4)]) [0, 1, 2] rfl ?_
      exact hkx179 _
    · refine S.aload_n 52 0 rfl rfl ?_
      refine S.getR 53 rfl fo_X12_95 rfl rfl rfl ?_
      refine S.iload 54 3 rfl rfl ?_
      refine S.iconst (0 : Int32) 55 rfl (by decide) ?_
      refine S.iast 56 rfl rfl (fun I25 => ?_)
      refine S.iconst (1 : Int32) 57 rfl (by decide) ?_
      refine S.istore [(6, .int (1 : Int32)), (0, .ref 81), (3, .int l3), (4, .int l4), (5, .int l5)] 58 rfl (by decide) rfl ?_
      refine S.sub (lv' := [(0, .ref 81), (3, .int l3), (4, .int l4), (5, .int l5), (6, .int (1 : Int32))]) [1, 2, 3, 4, 0] rfl ?_
      refine s_X12_findParted_L104 b _ _ _ _ _ (fun I31 => ?_) bgf _ _
      refine S.iinc (l5 + 1) [(5, .int (l5 + 1)), (0, .ref 81), (3, .int l3), (4, .int l4)] 96 3 rfl rfl rfl (by decide) rfl ?_
      refine S.goto 84 97 rfl (by decide) ?_
      refine S.sub (lv' := [(0, .ref 81), (3, .int l3), (4, .int l4), (5, .int (l5 + 1))]) [1, 2, 3, 0] rfl ?_
      exact ih _ _
def F_X12_findParted_L208 (l3 : Int32) (l4 : Int32) (l5 : Int32) (l6 : Int32) (J : HJ) (kx269 : HI → Option (Int32 × HI × HJ)) : Nat → Int32 → HI → Option (Int32 × HI × HJ)
  | 0, _, _ => none
  | K+1, l7, I =>
    bx l6 12 <|
    if (I m_masksMany (Int32.toNatClampNeg l6)) ≤ l7 then
      kx269 I
    else
      bx l5 4096 <|
      bx (((2187 : Int32) * l6) + l7) 26244 <|
      bx (l5 &&& ((I m_masks (Int32.toNatClampNeg (((2187 : Int32) * l6) + l7))) ^^^ (-1 : Int32))) 4096 <|
      bx l5 4096 <|
      lb (ui I m_fewest (Int32.toNatClampNeg l5) (omin (I m_fewest (Int32.toNatClampNeg l5)) ((I m_fewest (Int32.toNatClampNeg (l5 &&& ((I m_masks (Int32.toNatClampNeg (((2187 : Int32) * l6) + l7))) ^^^ (-1 : Int32))))) + (1 : Int32)))) fun I35 =>
      F_X12_findParted_L208 l3 l4 l5 l6 J kx269 K (l7 + 1) I35
set_option maxRecDepth 100000 in
theorem s_X12_findParted_L208 (b : Bool) (l3 : Int32) (l4 : Int32) (l5 : Int32) (l6 : Int32) (J : HJ) (kx269 : HI → Option (Int32 × HI × HJ)) (hkx269 : ∀ (I1 : HI), S (fI (zs b)) mX12_findParted (rmd 28 0 0) 0 0 (0, 0) 269 [(0, .ref 81), (3, .int l3), (4, .int l4), (5, .int l5)] [] (zs b, I1, J) (kx269 I1)) : ∀ (K : Nat) (l7 : Int32) (I : HI), S (fI (zs b)) mX12_findParted (rmd 28 0 0) 0 0 (0, 0) 208 [(0, .ref 81), (3, .int l3), (4, .int l4), (5, .int l5), (6, .int l6), (7, .int l7)] [] (zs b, I, J) (F_X12_findParted_L208 l3 l4 l5 l6 J kx269 K l7 I) := by
  intro K
  induction K with
  | zero => intro l7 I; exact S.none
  | succ K ih =>
    intro l7 I
    rw [F_X12_findParted_L208]
    refine S.iload 113 5 rfl rfl ?_
    refine S.aload_n 114 0 rfl rfl ?_
    refine S.getR 115 rfl fo_X12_95 rfl rfl rfl ?_
    refine S.iload 116 4 rfl rfl ?_
    refine S.iald 117 rfl rfl ?_
    refine S.icmp_ge 269 118 rfl (by decide) (fun _ => ?_) (fun _ => ?_)
    · refine S.sub (lv' := [(0, .ref 81), (3, .int l3), (4, .int l4), (5, .int l5)]) [0, 1, 2, 3] rfl ?_
      exact hkx269 _
    · refine S.aload_n 119 0 rfl rfl ?_
      refine S.getR 120 rfl fo_X12_86 rfl rfl rfl ?_
      refine S.iload 121 3 rfl rfl ?_
      refine S.aload_n 122 0 rfl rfl ?_
      refine S.getR 123 rfl fo_X12_86 rfl rfl rfl ?_
      refine S.iload 124 3 rfl rfl ?_
      refine S.iald 125 rfl rfl ?_
      refine S.aload_n 126 0 rfl rfl ?_
      refine S.getR 127 rfl fo_X12_86 rfl rfl rfl ?_
      refine S.iload 128 3 rfl rfl ?_
      refine S.aload_n 129 0 rfl rfl ?_
      refine S.getR 130 rfl fo_X12_92 rfl rfl rfl ?_
      refine S.sipush (2187 : Int32) 131 rfl (by decide) ?_
      refine S.iload 132 4 rfl rfl ?_
      refine S.imul 133 rfl ?_
      refine S.iload 134 5 rfl rfl ?_
      refine S.iadd 135 rfl ?_
      refine S.iald 136 rfl rfl ?_
      refine S.iconst (-1 : Int32) 137 rfl (by decide) ?_
      refine S.ixor 138 rfl ?_
      refine S.iand 139 rfl ?_
      refine S.iald 140 rfl rfl ?_
      refine S.iconst (1 : Int32) 141 rfl (by decide) ?_
      refine S.iadd 142 rfl ?_
      refine S.mmin 143 rfl co_X12_244 ⟨Nat.le_of_ble_eq_true rfl, Nat.le_of_ble_eq_true rfl, Nat.le_of_ble_eq_true rfl, Nat.le_of_ble_eq_true rfl, Nat.le_of_ble_eq_true rfl⟩ ?_
      refine S.iast 144 rfl rfl (fun I35 => ?_)
      refine S.iinc (l7 + 1) [(7, .int (l7 + 1)), (0, .ref 81), (3, .int l3), (4, .int l4), (5, .int l5), (6, .int l6)] 145 5 rfl rfl rfl (by decide) rfl ?_
      refine S.goto 208 146 rfl (by decide) ?_
      refine S.sub (lv' := [(0, .ref 81), (3, .int l3), (4, .int l4), (5, .int l5), (6, .int l6), (7, .int (l7 + 1))]) [1, 2, 3, 4, 5, 0] rfl ?_
      exact ih _ _
def F_X12_findParted_L182 (l3 : Int32) (l4 : Int32) (J : HJ) (kx275 : HI → Option (Int32 × HI × HJ)) : Nat → Int32 → HI → Option (Int32 × HI × HJ)
  | 0, _, _ => none
  | K+1, l5, I =>
    if l3 < l5 then
      kx275 I
    else
      bx l5 4096 <|
      lb (ui I m_fewest (Int32.toNatClampNeg l5) (1000000 : Int32)) fun I33 =>
      cp (F_J6_numberOfTrailingZeros_0f7a4 l5) fun r34 =>
      F_X12_findParted_L208 l3 l4 l5 r34 J (fun (I36 : HI) =>
      F_X12_findParted_L182 l3 l4 J kx275 K (l5 + 1) I36) bgf (0 : Int32) I33
set_option maxRecDepth 100000 in
theorem s_X12_findParted_L182 (b : Bool) (l3 : Int32) (l4 : Int32) (J : HJ) (kx275 : HI → Option (Int32 × HI × HJ)) (hkx275 : ∀ (I1 : HI), S (fI (zs b)) mX12_findParted (rmd 28 0 0) 0 0 (0, 0) 275 [(0, .ref 81), (3, .int l3), (4, .int l4)] [] (zs b, I1, J) (kx275 I1)) : ∀ (K : Nat) (l5 : Int32) (I : HI), S (fI (zs b)) mX12_findParted (rmd 28 0 0) 0 0 (0, 0) 182 [(0, .ref 81), (3, .int l3), (4, .int l4), (5, .int l5)] [] (zs b, I, J) (F_X12_findParted_L182 l3 l4 J kx275 K l5 I) := by
  intro K
  induction K with
  | zero => intro l5 I; exact S.none
  | succ K ih =>
    intro l5 I
    rw [F_X12_findParted_L182]
    refine S.iload 100 3 rfl rfl ?_
    refine S.iload_n 101 1 rfl rfl ?_
    refine S.icmp_gt 275 102 rfl (by decide) (fun _ => ?_) (fun _ => ?_)
    · refine S.sub (lv' := [(0, .ref 81), (3, .int l3), (4, .int l4)]) [0, 1, 2] rfl ?_
      exact hkx275 _
    · refine S.aload_n 103 0 rfl rfl ?_
      refine S.getR 104 rfl fo_X12_86 rfl rfl rfl ?_
      refine S.iload 105 3 rfl rfl ?_
      refine S.ldcw (1000000 : Int32) 106 rfl ko_X12_419 ?_
      refine S.iast 107 rfl rfl (fun I33 => ?_)
      refine S.iload 108 3 rfl rfl ?_
      refine S.qSI (d := 1) (av := [.int l5]) (rs := [.int l5]) 109 rfl co_X12_420 rfl rfl ⟨⟨Nat.le_of_ble_eq_true rfl, Nat.le_of_ble_eq_true rfl⟩, ⟨Nat.le_of_ble_eq_true rfl, Nat.le_of_ble_eq_true rfl⟩, Nat.le_of_ble_eq_true rfl⟩ (cm_J6_numberOfTrailingZeros_0f7a4 (zs b, I33, J) l5) (fun r34 => ?_)
      refine S.istore [(6, .int r34), (0, .ref 81), (3, .int l3), (4, .int l4), (5, .int l5)] 110 rfl (by decide) rfl ?_
      refine S.iconst (0 : Int32) 111 rfl (by decide) ?_
      refine S.istore [(7, .int (0 : Int32)), (6, .int r34), (0, .ref 81), (3, .int l3), (4, .int l4), (5, .int l5)] 112 rfl (by decide) rfl ?_
      refine S.sub (lv' := [(0, .ref 81), (3, .int l3), (4, .int l4), (5, .int l5), (6, .int r34), (7, .int (0 : Int32))]) [2, 3, 4, 5, 1, 0] rfl ?_
      refine s_X12_findParted_L208 b _ _ _ _ _ _ (fun I36 => ?_) bgf _ _
      refine S.iinc (l5 + 1) [(5, .int (l5 + 1)), (0, .ref 81), (3, .int l3), (4, .int l4)] 147 3 rfl rfl rfl (by decide) rfl ?_
      refine S.goto 182 148 rfl (by decide) ?_
      refine S.sub (lv' := [(0, .ref 81), (3, .int l3), (4, .int l4), (5, .int (l5 + 1))]) [1, 2, 3, 0] rfl ?_
      exact ih _ _
def F_X12_findParted_L300 (l4 : Int32) (J : HJ) : Nat → Int32 → Int32 → HI → Option (Int32 × HI × HJ)
  | 0, _, _, _ => none
  | K+1, l5, l6, I =>
    if l4 ≤ l6 then
      some ((1 : Int32), I, J)
    else
      if l5 = 0 then
        some ((1 : Int32), I, J)
      else
        bx l6 2187 <|
        bx (l5 &&& ((I m_shownBy (Int32.toNatClampNeg l6)) ^^^ (-1 : Int32))) 4096 <|
        bx l5 4096 <|
        lb (fun (y39 : Int32) (I40 : HI) =>
        F_X12_findParted_L300 l4 J K y39 (l6 + 1) I40) fun j41 =>
        if (I m_fewest (Int32.toNatClampNeg (l5 &&& ((I m_shownBy (Int32.toNatClampNeg l6)) ^^^ (-1 : Int32))))) = ((I m_fewest (Int32.toNatClampNeg l5)) - (1 : Int32)) then
          bx (I m_self f_Model_turns) 12 <|
          lb (ui I m_turn (Int32.toNatClampNeg (I m_self f_Model_turns)) l6) fun I42 =>
          lb (ui I42 m_self f_Model_turns ((I42 m_self f_Model_turns) + (1 : Int32))) fun I43 =>
          bx l6 2187 <|
          lb ((l5 &&& ((I43 m_shownBy (Int32.toNatClampNeg l6)) ^^^ (-1 : Int32)))) fun x44 =>
          j41 x44 I43
        else
          j41 l5 I
set_option maxRecDepth 100000 in
theorem s_X12_findParted_L300 (b : Bool) (l4 : Int32) (J : HJ) : ∀ (K : Nat) (l5 : Int32) (l6 : Int32) (I : HI), S (fI (zs b)) mX12_findParted (rmd 28 0 0) 0 0 (0, 0) 300 [(0, .ref 81), (4, .int l4), (5, .int l5), (6, .int l6)] [] (zs b, I, J) (F_X12_findParted_L300 l4 J K l5 l6 I) := by
  intro K
  induction K with
  | zero => intro l5 l6 I; exact S.none
  | succ K ih =>
    intro l5 l6 I
    rw [F_X12_findParted_L300]
    refine S.iload 164 3 rfl rfl ?_
    refine S.iload 165 1 rfl rfl ?_
    refine S.icmp_ge 385 166 rfl (by decide) (fun _ => ?_) (fun _ => ?_)
    · refine S.iconst (1 : Int32) 211 rfl (by decide) ?_
      exact S.iret 212 rfl rfl rfl (Nat.le_refl _) (Nat.le_refl _) rfl
    · refine S.iload 167 2 rfl rfl ?_
      refine S.if_eq 385 168 rfl (by decide) (fun _ => ?_) (fun _ => ?_)
      · refine S.iconst (1 : Int32) 211 rfl (by decide) ?_
        exact S.iret 212 rfl rfl rfl (Nat.le_refl _) (Nat.le_refl _) rfl
      · refine S.aload_n 169 0 rfl rfl ?_
        refine S.getR 170 rfl fo_X12_86 rfl rfl rfl ?_
        refine S.iload 171 2 rfl rfl ?_
        refine S.aload_n 172 0 rfl rfl ?_
        refine S.getR 173 rfl fo_X12_83 rfl rfl rfl ?_
        refine S.iload 174 3 rfl rfl ?_
        refine S.iald 175 rfl rfl ?_
        refine S.iconst (-1 : Int32) 176 rfl (by decide) ?_
        refine S.ixor 177 rfl ?_
        refine S.iand 178 rfl ?_
        refine S.iald 179 rfl rfl ?_
        refine S.aload_n 180 0 rfl rfl ?_
        refine S.getR 181 rfl fo_X12_86 rfl rfl rfl ?_
        refine S.iload 182 2 rfl rfl ?_
        refine S.iald 183 rfl rfl ?_
        refine S.iconst (1 : Int32) 184 rfl (by decide) ?_
        refine S.isub 185 rfl ?_
        refine S.jn (fun j => ∀ (y39 : Int32) (I40 : HI), S (fI (zs b)) mX12_findParted (rmd 28 0 0) 0 0 (0, 0) 379 [(0, .ref 81), (4, .int l4), (5, .int y39), (6, .int l6)] [] (zs b, I40, J) (j y39 I40)) (fun y39 I40 => ?_) (fun j41 hj41 => ?_)
        · refine S.iinc (l6 + 1) [(6, .int (l6 + 1)), (0, .ref 81), (4, .int l4), (5, .int y39)] 209 3 rfl rfl rfl (by decide) rfl ?_
          refine S.goto 300 210 rfl (by decide) ?_
          refine S.sub (lv' := [(0, .ref 81), (4, .int l4), (5, .int y39), (6, .int (l6 + 1))]) [1, 2, 3, 0] rfl ?_
          exact ih _ _ _
        · refine S.icmp_eq 344 186 rfl (by decide) (fun _ => ?_) (fun _ => ?_)
          · refine S.aload_n 188 0 rfl rfl ?_
            refine S.getR 189 rfl fo_X12_98 rfl rfl rfl ?_
            refine S.aload_n 190 0 rfl rfl ?_
            refine S.getI 191 rfl fo_X12_424 rfl rfl ?_
            refine S.iload 192 3 rfl rfl ?_
            refine S.iast 193 rfl rfl (fun I42 => ?_)
            refine S.aload_n 194 0 rfl rfl ?_
            refine S.dup 195 rfl rfl ?_
            refine S.getI 196 rfl fo_X12_424 rfl rfl ?_
            refine S.iconst (1 : Int32) 197 rfl (by decide) ?_
            refine S.iadd 198 rfl ?_
            refine S.putI 199 rfl fo_X12_424 rfl rfl rfl rfl (fun _ hq => by cases hq; exact Or.inl rfl) (fun I43 => ?_)
            refine S.iload 200 2 rfl rfl ?_
            refine S.aload_n 201 0 rfl rfl ?_
            refine S.getR 202 rfl fo_X12_83 rfl rfl rfl ?_
            refine S.iload 203 3 rfl rfl ?_
            refine S.iald 204 rfl rfl ?_
            refine S.iconst (-1 : Int32) 205 rfl (by decide) ?_
            refine S.ixor 206 rfl ?_
            refine S.iand 207 rfl ?_
            refine S.nmi (fun x44 => ?_)
            refine S.istore [(5, .int x44), (0, .ref 81), (4, .int l4), (6, .int l6)] 208 rfl (by decide) rfl ?_
            refine S.sub (lv' := [(0, .ref 81), (4, .int l4), (5, .int x44), (6, .int l6)]) [1, 2, 0, 3] rfl ?_
            exact hj41 _ _
          · refine S.goto 379 187 rfl (by decide) ?_
            exact hj41 _ _
def F_X12_findParted (l1 : Int64) (I : HI) (J : HJ) : Option (Int32 × HI × HJ) :=
  cl (F_X12_findTurns l1 I J) fun _ I15 J16 =>
  lb (((oshl (1 : Int32) (I15 m_self f_Model_members)) - (1 : Int32))) fun x17 =>
  cp (F_X12_settings I15 J16) fun r18 =>
  F_X12_findParted_L23 x17 r18 J16 (fun (I20 : HI) =>
  lb ((r18 - (1 : Int32))) fun x21 =>
  F_X12_findParted_L49 x17 r18 J16 (fun (I23 : HI) =>
  bx (0 : Int32) 4096 <|
  lb (ui I23 m_fewest (Int32.toNatClampNeg (0 : Int32)) (0 : Int32)) fun I24 =>
  F_X12_findParted_L84 x17 r18 J16 (fun (I32 : HI) =>
  F_X12_findParted_L182 x17 r18 J16 (fun (I37 : HI) =>
  bx x17 4096 <|
  if (I37 m_fewest (Int32.toNatClampNeg x17)) < (1000000 : Int32) then
    lb (ui I37 m_self f_Model_turns (0 : Int32)) fun I38 =>
    F_X12_findParted_L300 r18 J16 bgf x17 (0 : Int32) I38
  else
    some ((0 : Int32), I37, J16)) bgf (1 : Int32) I32) bgf (0 : Int32) I24) bgf x21 I20) bgf (0 : Int32) I15
set_option maxRecDepth 100000 in
theorem cm_X12_findParted (b : Bool) (l1 : Int64) (I : HI) (J : HJ) : CM mX12_findParted 28 0 0 [.ref 81, .long l1] (zs b, I, J) (fI (zs b)) (F_X12_findParted l1 I J) := by
  refine S.of okX12_findParted pn_X12 (Nat.le_of_ble_eq_true rfl) ?_
  refine S.sub (lv' := [(0, .ref 81), (1, .long l1)]) [0, 1] rfl ?_
  unfold F_X12_findParted
  refine S.aload_n 0 0 rfl rfl ?_
  refine S.lload_n 1 1 rfl rfl ?_
  refine S.cVV (d := 27) (av := [.long l1]) (rs := [.long l1]) (b := 81) 2 rfl co_X12_416 rfl rfl rfl rfl rfl ⟨⟨Nat.le_of_ble_eq_true rfl, Nat.le_of_ble_eq_true rfl⟩, ⟨Nat.le_of_ble_eq_true rfl, Nat.le_of_ble_eq_true rfl⟩, Nat.le_of_ble_eq_true rfl⟩ (cm_X12_findTurns b l1 I J) (fun _ I15 J16 => ?_)
  refine S.iconst (1 : Int32) 3 rfl (by decide) ?_
  refine S.aload_n 4 0 rfl rfl ?_
  refine S.getI 5 rfl fo_X12_409 rfl rfl ?_
  refine S.ishl 6 rfl ?_
  refine S.iconst (1 : Int32) 7 rfl (by decide) ?_
  refine S.isub 8 rfl ?_
  refine S.nmi (fun x17 => ?_)
  refine S.istore_n [(3, .int x17), (0, .ref 81), (1, .long l1)] 9 rfl (by decide) rfl ?_
  refine S.aload_n 10 1 rfl rfl ?_
  refine S.qVI (d := 1) (av := []) (rs := []) (b := 81) 11 rfl co_X12_380 rfl rfl rfl rfl rfl ⟨⟨Nat.le_of_ble_eq_true rfl, Nat.le_of_ble_eq_true rfl⟩, ⟨Nat.le_of_ble_eq_true rfl, Nat.le_of_ble_eq_true rfl⟩, Nat.le_of_ble_eq_true rfl⟩ (cm_X12_settings b I15 J16) (fun r18 => ?_)
  refine S.istore [(4, .int r18), (3, .int x17), (0, .ref 81), (1, .long l1)] 12 rfl (by decide) rfl ?_
  refine S.iconst (0 : Int32) 13 rfl (by decide) ?_
  refine S.istore [(5, .int (0 : Int32)), (4, .int r18), (3, .int x17), (0, .ref 81), (1, .long l1)] 14 rfl (by decide) rfl ?_
  refine S.sub (lv' := [(0, .ref 81), (3, .int x17), (4, .int r18), (5, .int (0 : Int32))]) [3, 2, 1, 0] rfl ?_
  refine s_X12_findParted_L23 b _ _ _ _ (fun I20 => ?_) bgf _ _
  refine S.iload 25 2 rfl rfl ?_
  refine S.iconst (1 : Int32) 26 rfl (by decide) ?_
  refine S.isub 27 rfl ?_
  refine S.nmi (fun x21 => ?_)
  refine S.istore [(5, .int x21), (0, .ref 81), (3, .int x17), (4, .int r18)] 28 rfl (by decide) rfl ?_
  refine S.sub (lv' := [(0, .ref 81), (3, .int x17), (4, .int r18), (5, .int x21)]) [1, 2, 3, 0] rfl ?_
  refine s_X12_findParted_L49 b _ _ _ _ (fun I23 => ?_) bgf _ _
  refine S.aload_n 41 0 rfl rfl ?_
  refine S.getR 42 rfl fo_X12_86 rfl rfl rfl ?_
  refine S.iconst (0 : Int32) 43 rfl (by decide) ?_
  refine S.iconst (0 : Int32) 44 rfl (by decide) ?_
  refine S.iast 45 rfl rfl (fun I24 => ?_)
  refine S.iconst (0 : Int32) 46 rfl (by decide) ?_
  refine S.istore [(5, .int (0 : Int32)), (0, .ref 81), (3, .int x17), (4, .int r18)] 47 rfl (by decide) rfl ?_
  refine S.sub (lv' := [(0, .ref 81), (3, .int x17), (4, .int r18), (5, .int (0 : Int32))]) [1, 2, 3, 0] rfl ?_
  refine s_X12_findParted_L84 b _ _ _ _ (fun I32 => ?_) bgf _ _
  refine S.iconst (1 : Int32) 98 rfl (by decide) ?_
  refine S.istore [(5, .int (1 : Int32)), (0, .ref 81), (3, .int x17), (4, .int r18)] 99 rfl (by decide) rfl ?_
  refine S.sub (lv' := [(0, .ref 81), (3, .int x17), (4, .int r18), (5, .int (1 : Int32))]) [1, 2, 3, 0] rfl ?_
  refine s_X12_findParted_L182 b _ _ _ _ (fun I37 => ?_) bgf _ _
  refine S.aload_n 149 0 rfl rfl ?_
  refine S.getR 150 rfl fo_X12_86 rfl rfl rfl ?_
  refine S.iload_n 151 1 rfl rfl ?_
  refine S.iald 152 rfl rfl ?_
  refine S.ldcw (1000000 : Int32) 153 rfl ko_X12_419 ?_
  refine S.icmp_lt 289 154 rfl (by decide) (fun _ => ?_) (fun _ => ?_)
  · refine S.aload_n 157 0 rfl rfl ?_
    refine S.iconst (0 : Int32) 158 rfl (by decide) ?_
    refine S.putI 159 rfl fo_X12_424 rfl rfl rfl rfl (fun _ hq => by cases hq; exact Or.inl rfl) (fun I38 => ?_)
    refine S.iload_n 160 1 rfl rfl ?_
    refine S.istore [(5, .int x17), (0, .ref 81), (3, .int x17), (4, .int r18)] 161 rfl (by decide) rfl ?_
    refine S.iconst (0 : Int32) 162 rfl (by decide) ?_
    refine S.istore [(6, .int (0 : Int32)), (5, .int x17), (0, .ref 81), (3, .int x17), (4, .int r18)] 163 rfl (by decide) rfl ?_
    refine S.sub (lv' := [(0, .ref 81), (4, .int r18), (5, .int x17), (6, .int (0 : Int32))]) [2, 4, 1, 0] rfl ?_
    refine s_X12_findParted_L300 b _ _ bgf _ _ _
  · refine S.iconst (0 : Int32) 155 rfl (by decide) ?_
    exact S.iret 156 rfl rfl rfl (Nat.le_refl _) (Nat.le_refl _) rfl
def F_X12_tellTurns_L2  : Nat → Int32 → HI → HJ → Option (Unit × HI × HJ)
  | 0, _, _, _ => none
  | K+1, l1, I, J =>
    if (I m_self f_Model_turns) ≤ l1 then
      some ((), I, J)
    else
      bx l1 12 <|
      cl (F_X12_tell (Int32.toInt64 (I m_turn (Int32.toNatClampNeg l1))) I J) fun _ I1 J2 =>
      F_X12_tellTurns_L2 K (l1 + 1) I1 J2
set_option maxRecDepth 100000 in
theorem s_X12_tellTurns_L2 (b : Bool)  : ∀ (K : Nat) (l1 : Int32) (I : HI) (J : HJ), S (fV (zs b)) mX12_tellTurns (rmd 2 0 0) 0 0 (0, 0) 2 [(0, .ref 81), (1, .int l1)] [] (zs b, I, J) (F_X12_tellTurns_L2 K l1 I J) := by
  intro K
  induction K with
  | zero => intro l1 I J; exact S.none
  | succ K ih =>
    intro l1 I J
    rw [F_X12_tellTurns_L2]
    refine S.iload_n 2 1 rfl rfl ?_
    refine S.aload_n 3 0 rfl rfl ?_
    refine S.getI 4 rfl fo_X12_424 rfl rfl ?_
    refine S.icmp_ge 27 5 rfl (by decide) (fun _ => ?_) (fun _ => ?_)
    · exact S.vret 15 rfl rfl (Nat.le_refl _) (Nat.le_refl _) rfl
    · refine S.aload_n 6 0 rfl rfl ?_
      refine S.aload_n 7 0 rfl rfl ?_
      refine S.getR 8 rfl fo_X12_98 rfl rfl rfl ?_
      refine S.iload_n 9 1 rfl rfl ?_
      refine S.iald 10 rfl rfl ?_
      refine S.i2l 11 rfl ?_
      refine S.cVV (d := 1) (av := [.long (Int32.toInt64 (I m_turn (Int32.toNatClampNeg l1)))]) (rs := [.long (Int32.toInt64 (I m_turn (Int32.toNatClampNeg l1)))]) (b := 81) 12 rfl co_X12_371 rfl rfl rfl rfl rfl ⟨⟨Nat.le_of_ble_eq_true rfl, Nat.le_of_ble_eq_true rfl⟩, ⟨Nat.le_of_ble_eq_true rfl, Nat.le_of_ble_eq_true rfl⟩, Nat.le_of_ble_eq_true rfl⟩ (cm_X12_tell b (Int32.toInt64 (I m_turn (Int32.toNatClampNeg l1))) I J) (fun _ I1 J2 => ?_)
      refine S.iinc (l1 + 1) [(1, .int (l1 + 1)), (0, .ref 81)] 13 1 rfl rfl rfl (by decide) rfl ?_
      refine S.goto 2 14 rfl (by decide) ?_
      refine S.sub (lv' := [(0, .ref 81), (1, .int (l1 + 1))]) [1, 0] rfl ?_
      exact ih _ _ _
def F_X12_tellTurns  (I : HI) (J : HJ) : Option (Unit × HI × HJ) :=
  F_X12_tellTurns_L2 bgf (0 : Int32) I J
set_option maxRecDepth 100000 in
theorem cm_X12_tellTurns (b : Bool)  (I : HI) (J : HJ) : CM mX12_tellTurns 2 0 0 [.ref 81] (zs b, I, J) (fV (zs b)) (F_X12_tellTurns  I J) := by
  refine S.of okX12_tellTurns pn_X12 (Nat.le_of_ble_eq_true rfl) ?_
  refine S.sub (lv' := [(0, .ref 81)]) [0] rfl ?_
  unfold F_X12_tellTurns
  refine S.iconst (0 : Int32) 0 rfl (by decide) ?_
  refine S.istore_n [(1, .int (0 : Int32)), (0, .ref 81)] 1 rfl (by decide) rfl ?_
  refine S.sub (lv' := [(0, .ref 81), (1, .int (0 : Int32))]) [1, 0] rfl ?_
  refine s_X12_tellTurns_L2 b bgf _ _ _
def F_X12_parted (l1 : Int32) (I : HI) (J : HJ) : Option (Int32 × HI × HJ) :=
  lb (ui I m_self f_Model_thrown (0 : Int32)) fun I3 =>
  cp (F_X12_refusal l1 I3 J) fun r4 =>
  if 0 ≤ r4 then
    bx l1 4 <|
    cl (F_X12_findParted (J m_pictures (Int32.toNatClampNeg l1)) I3 J) fun r5 I6 J7 =>
    if r5 = 0 then
      some ((-2 : Int32), I6, J7)
    else
      lb (ui I6 m_self f_Model_rowMany (0 : Int32)) fun I8 =>
      cl (F_X12_tellTurns I8 J7) fun _ I9 J10 =>
      some ((I9 m_self f_Model_turns), I9, J10)
  else
    some (r4, I3, J)
set_option maxRecDepth 100000 in
theorem cm_X12_parted (b : Bool) (l1 : Int32) (I : HI) (J : HJ) : CM mX12_parted 29 0 0 [.ref 81, .int l1] (zs b, I, J) (fI (zs b)) (F_X12_parted l1 I J) := by
  refine S.of okX12_parted pn_X12 (Nat.le_of_ble_eq_true rfl) ?_
  refine S.sub (lv' := [(0, .ref 81), (1, .int l1)]) [0, 1] rfl ?_
  unfold F_X12_parted
  refine S.aload_n 0 0 rfl rfl ?_
  refine S.iconst (0 : Int32) 1 rfl (by decide) ?_
  refine S.putI 2 rfl fo_X12_159 rfl rfl rfl rfl (fun _ hq => by cases hq; exact Or.inl rfl) (fun I3 => ?_)
  refine S.aload_n 3 0 rfl rfl ?_
  refine S.iload_n 4 1 rfl rfl ?_
  refine S.qVI (d := 2) (av := [.int l1]) (rs := [.int l1]) (b := 81) 5 rfl co_X12_427 rfl rfl rfl rfl rfl ⟨⟨Nat.le_of_ble_eq_true rfl, Nat.le_of_ble_eq_true rfl⟩, ⟨Nat.le_of_ble_eq_true rfl, Nat.le_of_ble_eq_true rfl⟩, Nat.le_of_ble_eq_true rfl⟩ (cm_X12_refusal b l1 I3 J) (fun r4 => ?_)
  refine S.istore_n [(2, .int r4), (0, .ref 81), (1, .int l1)] 6 rfl (by decide) rfl ?_
  refine S.iload_n 7 0 rfl rfl ?_
  refine S.if_ge 17 8 rfl (by decide) (fun _ => ?_) (fun _ => ?_)
  · refine S.aload_n 11 1 rfl rfl ?_
    refine S.aload_n 12 1 rfl rfl ?_
    refine S.getR 13 rfl fo_X12_77 rfl rfl rfl ?_
    refine S.iload_n 14 2 rfl rfl ?_
    refine S.lald 15 rfl rfl ?_
    refine S.cVI (d := 28) (av := [.long (J m_pictures (Int32.toNatClampNeg l1))]) (rs := [.long (J m_pictures (Int32.toNatClampNeg l1))]) (b := 81) 16 rfl co_X12_430 rfl rfl rfl rfl rfl ⟨⟨Nat.le_of_ble_eq_true rfl, Nat.le_of_ble_eq_true rfl⟩, ⟨Nat.le_of_ble_eq_true rfl, Nat.le_of_ble_eq_true rfl⟩, Nat.le_of_ble_eq_true rfl⟩ (cm_X12_findParted b (J m_pictures (Int32.toNatClampNeg l1)) I3 J) (fun r5 I6 J7 => ?_)
    refine S.if_ne 33 17 rfl (by decide) (fun _ => ?_) (fun _ => ?_)
    · refine S.aload_n 20 1 rfl rfl ?_
      refine S.iconst (0 : Int32) 21 rfl (by decide) ?_
      refine S.putI 22 rfl fo_X12_162 rfl rfl rfl rfl (fun _ hq => by cases hq; exact Or.inl rfl) (fun I8 => ?_)
      refine S.aload_n 23 1 rfl rfl ?_
      refine S.cVV (d := 2) (av := []) (rs := []) (b := 81) 24 rfl co_X12_433 rfl rfl rfl rfl rfl ⟨⟨Nat.le_of_ble_eq_true rfl, Nat.le_of_ble_eq_true rfl⟩, ⟨Nat.le_of_ble_eq_true rfl, Nat.le_of_ble_eq_true rfl⟩, Nat.le_of_ble_eq_true rfl⟩ (cm_X12_tellTurns b I8 J7) (fun _ I9 J10 => ?_)
      refine S.aload_n 25 1 rfl rfl ?_
      refine S.getI 26 rfl fo_X12_424 rfl rfl ?_
      exact S.iret 27 rfl rfl rfl (Nat.le_refl _) (Nat.le_refl _) rfl
    · refine S.bipush (-2 : Int32) 18 rfl (by decide) ?_
      exact S.iret 19 rfl rfl rfl (Nat.le_refl _) (Nat.le_refl _) rfl
  · refine S.iload_n 9 0 rfl rfl ?_
    exact S.iret 10 rfl rfl rfl (Nat.le_refl _) (Nat.le_refl _) rfl
def F_X12_proof_L64 (l3 : Int32) (l4 : Int32) (I : HI) (J : HJ) (kx108 : Int32 → Option (Int32 × HI × HJ)) : Nat → Int32 → Int32 → Option (Int32 × HI × HJ)
  | 0, _, _ => none
  | K+1, l5, l6 =>
    cp (F_X12_settings I J) fun r12 =>
    if r12 ≤ l6 then
      kx108 l5
    else
      if l5 = 0 then
        kx108 l5
      else
        bx l6 2187 <|
        cp (F_J6_bitCount_0f7a4 ((I m_shownBy (Int32.toNatClampNeg l6)) &&& l4)) fun r13 =>
        lb (fun (y14 : Int32) =>
        F_X12_proof_L64 l3 l4 I J kx108 K y14 (l6 + 1)) fun j15 =>
        if (2 : Int32) ≤ r13 then
          j15 (0 : Int32)
        else
          j15 (1 : Int32)
set_option maxRecDepth 100000 in
theorem s_X12_proof_L64 (b : Bool) (l3 : Int32) (l4 : Int32) (I : HI) (J : HJ) (kx108 : Int32 → Option (Int32 × HI × HJ)) (hkx108 : ∀ (y5 : Int32), S (fI (zs b)) mX12_proof (rmd 28 0 0) 0 0 (0, 0) 108 [(0, .ref 81), (3, .int l3), (4, .int l4), (5, .int y5)] [] (zs b, I, J) (kx108 y5)) : ∀ (K : Nat) (l5 : Int32) (l6 : Int32), S (fI (zs b)) mX12_proof (rmd 28 0 0) 0 0 (0, 0) 64 [(0, .ref 81), (3, .int l3), (4, .int l4), (5, .int l5), (6, .int l6)] [] (zs b, I, J) (F_X12_proof_L64 l3 l4 I J kx108 K l5 l6) := by
  intro K
  induction K with
  | zero => intro l5 l6; exact S.none
  | succ K ih =>
    intro l5 l6
    rw [F_X12_proof_L64]
    refine S.iload 37 4 rfl rfl ?_
    refine S.aload_n 38 0 rfl rfl ?_
    refine S.qVI (d := 1) (av := []) (rs := []) (b := 81) 39 rfl co_X12_380 rfl rfl rfl rfl rfl ⟨⟨Nat.le_of_ble_eq_true rfl, Nat.le_of_ble_eq_true rfl⟩, ⟨Nat.le_of_ble_eq_true rfl, Nat.le_of_ble_eq_true rfl⟩, Nat.le_of_ble_eq_true rfl⟩ (cm_X12_settings b I J) (fun r12 => ?_)
    refine S.icmp_ge 108 40 rfl (by decide) (fun _ => ?_) (fun _ => ?_)
    · refine S.sub (lv' := [(0, .ref 81), (3, .int l3), (4, .int l4), (5, .int l5)]) [0, 1, 2, 3] rfl ?_
      exact hkx108 _
    · refine S.iload 41 3 rfl rfl ?_
      refine S.if_eq 108 42 rfl (by decide) (fun _ => ?_) (fun _ => ?_)
      · refine S.sub (lv' := [(0, .ref 81), (3, .int l3), (4, .int l4), (5, .int l5)]) [0, 1, 2, 3] rfl ?_
        exact hkx108 _
      · refine S.aload_n 43 0 rfl rfl ?_
        refine S.getR 44 rfl fo_X12_83 rfl rfl rfl ?_
        refine S.iload 45 4 rfl rfl ?_
        refine S.iald 46 rfl rfl ?_
        refine S.iload 47 2 rfl rfl ?_
        refine S.iand 48 rfl ?_
        refine S.qSI (d := 1) (av := [.int ((I m_shownBy (Int32.toNatClampNeg l6)) &&& l4)]) (rs := [.int ((I m_shownBy (Int32.toNatClampNeg l6)) &&& l4)]) 49 rfl co_X12_436 rfl rfl ⟨⟨Nat.le_of_ble_eq_true rfl, Nat.le_of_ble_eq_true rfl⟩, ⟨Nat.le_of_ble_eq_true rfl, Nat.le_of_ble_eq_true rfl⟩, Nat.le_of_ble_eq_true rfl⟩ (cm_J6_bitCount_0f7a4 (zs b, I, J) ((I m_shownBy (Int32.toNatClampNeg l6)) &&& l4)) (fun r13 => ?_)
        refine S.iconst (2 : Int32) 50 rfl (by decide) ?_
        refine S.jn (fun j => ∀ (y14 : Int32), S (fI (zs b)) mX12_proof (rmd 28 0 0) 0 0 (0, 0) 100 [(0, .ref 81), (3, .int l3), (4, .int l4), (6, .int l6)] [.int y14] (zs b, I, J) (j y14)) (fun y14 => ?_) (fun j15 hj15 => ?_)
        · refine S.istore [(5, .int y14), (0, .ref 81), (3, .int l3), (4, .int l4), (6, .int l6)] 55 rfl (by decide) rfl ?_
          refine S.iinc (l6 + 1) [(6, .int (l6 + 1)), (5, .int y14), (0, .ref 81), (3, .int l3), (4, .int l4)] 56 4 rfl rfl rfl (by decide) rfl ?_
          refine S.goto 64 57 rfl (by decide) ?_
          refine S.sub (lv' := [(0, .ref 81), (3, .int l3), (4, .int l4), (5, .int y14), (6, .int (l6 + 1))]) [2, 3, 4, 1, 0] rfl ?_
          exact ih _ _
        · refine S.icmp_ge 99 51 rfl (by decide) (fun _ => ?_) (fun _ => ?_)
          · refine S.iconst (0 : Int32) 54 rfl (by decide) ?_
            refine S.sub (lv' := [(0, .ref 81), (3, .int l3), (4, .int l4), (6, .int l6)]) [0, 1, 2, 4] rfl ?_
            exact hj15 _
          · refine S.iconst (1 : Int32) 52 rfl (by decide) ?_
            refine S.goto 100 53 rfl (by decide) ?_
            refine S.sub (lv' := [(0, .ref 81), (3, .int l3), (4, .int l4), (6, .int l6)]) [0, 1, 2, 4] rfl ?_
            exact hj15 _
def F_X12_proof_L32 (I : HI) (J : HJ) (kx122 : Int32 → Option (Int32 × HI × HJ)) : Nat → Int32 → Int32 → Option (Int32 × HI × HJ)
  | 0, _, _ => none
  | K+1, l3, l4 =>
    if (oshl (1 : Int32) (I m_self f_Model_members)) ≤ l4 then
      kx122 l3
    else
      cp (F_J6_bitCount_0f7a4 l4) fun r8 =>
      cp (F_J6_bitCount_0f7a4 l3) fun r9 =>
      lb (fun (y10 : Int32) =>
      F_X12_proof_L32 I J kx122 K y10 (l4 + 1)) fun j11 =>
      if r9 < r8 then
        F_X12_proof_L64 l3 l4 I J (fun (y16 : Int32) =>
        if y16 = 0 then
          j11 l3
        else
          j11 l4) bgf (1 : Int32) (0 : Int32)
      else
        j11 l3
set_option maxRecDepth 100000 in
theorem s_X12_proof_L32 (b : Bool) (I : HI) (J : HJ) (kx122 : Int32 → Option (Int32 × HI × HJ)) (hkx122 : ∀ (y3 : Int32), S (fI (zs b)) mX12_proof (rmd 28 0 0) 0 0 (0, 0) 122 [(0, .ref 81), (3, .int y3)] [] (zs b, I, J) (kx122 y3)) : ∀ (K : Nat) (l3 : Int32) (l4 : Int32), S (fI (zs b)) mX12_proof (rmd 28 0 0) 0 0 (0, 0) 32 [(0, .ref 81), (3, .int l3), (4, .int l4)] [] (zs b, I, J) (F_X12_proof_L32 I J kx122 K l3 l4) := by
  intro K
  induction K with
  | zero => intro l3 l4; exact S.none
  | succ K ih =>
    intro l3 l4
    rw [F_X12_proof_L32]
    refine S.iload 21 2 rfl rfl ?_
    refine S.iconst (1 : Int32) 22 rfl (by decide) ?_
    refine S.aload_n 23 0 rfl rfl ?_
    refine S.getI 24 rfl fo_X12_409 rfl rfl ?_
    refine S.ishl 25 rfl ?_
    refine S.icmp_ge 122 26 rfl (by decide) (fun _ => ?_) (fun _ => ?_)
    · refine S.sub (lv' := [(0, .ref 81), (3, .int l3)]) [0, 1] rfl ?_
      exact hkx122 _
    · refine S.iload 27 2 rfl rfl ?_
      refine S.qSI (d := 1) (av := [.int l4]) (rs := [.int l4]) 28 rfl co_X12_436 rfl rfl ⟨⟨Nat.le_of_ble_eq_true rfl, Nat.le_of_ble_eq_true rfl⟩, ⟨Nat.le_of_ble_eq_true rfl, Nat.le_of_ble_eq_true rfl⟩, Nat.le_of_ble_eq_true rfl⟩ (cm_J6_bitCount_0f7a4 (zs b, I, J) l4) (fun r8 => ?_)
      refine S.iload_n 29 1 rfl rfl ?_
      refine S.qSI (d := 1) (av := [.int l3]) (rs := [.int l3]) 30 rfl co_X12_436 rfl rfl ⟨⟨Nat.le_of_ble_eq_true rfl, Nat.le_of_ble_eq_true rfl⟩, ⟨Nat.le_of_ble_eq_true rfl, Nat.le_of_ble_eq_true rfl⟩, Nat.le_of_ble_eq_true rfl⟩ (cm_J6_bitCount_0f7a4 (zs b, I, J) l3) (fun r9 => ?_)
      refine S.jn (fun j => ∀ (y10 : Int32), S (fI (zs b)) mX12_proof (rmd 28 0 0) 0 0 (0, 0) 116 [(0, .ref 81), (3, .int y10), (4, .int l4)] [] (zs b, I, J) (j y10)) (fun y10 => ?_) (fun j11 hj11 => ?_)
      · refine S.iinc (l4 + 1) [(4, .int (l4 + 1)), (0, .ref 81), (3, .int y10)] 62 2 rfl rfl rfl (by decide) rfl ?_
        refine S.goto 32 63 rfl (by decide) ?_
        refine S.sub (lv' := [(0, .ref 81), (3, .int y10), (4, .int (l4 + 1))]) [1, 2, 0] rfl ?_
        exact ih _ _
      · refine S.icmp_gt 58 31 rfl (by decide) (fun _ => ?_) (fun _ => ?_)
        · refine S.iconst (1 : Int32) 33 rfl (by decide) ?_
          refine S.istore [(5, .int (1 : Int32)), (0, .ref 81), (3, .int l3), (4, .int l4)] 34 rfl (by decide) rfl ?_
          refine S.iconst (0 : Int32) 35 rfl (by decide) ?_
          refine S.istore [(6, .int (0 : Int32)), (5, .int (1 : Int32)), (0, .ref 81), (3, .int l3), (4, .int l4)] 36 rfl (by decide) rfl ?_
          refine S.sub (lv' := [(0, .ref 81), (3, .int l3), (4, .int l4), (5, .int (1 : Int32)), (6, .int (0 : Int32))]) [2, 3, 4, 1, 0] rfl ?_
          refine s_X12_proof_L64 b _ _ _ _ _ (fun y16 => ?_) bgf _ _
          refine S.iload 58 3 rfl rfl ?_
          refine S.if_eq 116 59 rfl (by decide) (fun _ => ?_) (fun _ => ?_)
          · refine S.sub (lv' := [(0, .ref 81), (3, .int l3), (4, .int l4)]) [0, 1, 2] rfl ?_
            exact hj11 _
          · refine S.iload 60 2 rfl rfl ?_
            refine S.istore_n [(3, .int l4), (0, .ref 81), (4, .int l4), (5, .int y16)] 61 rfl (by decide) rfl ?_
            refine S.sub (lv' := [(0, .ref 81), (3, .int l4), (4, .int l4)]) [1, 0, 2] rfl ?_
            exact hj11 _
        · refine S.goto 116 32 rfl (by decide) ?_
          exact hj11 _
def F_X12_proof_L128 (l3 : Int32) (I : HI) (J : HJ) (kx171 : Int64 → Option (Int32 × HI × HJ)) : Nat → Int64 → Int32 → Option (Int32 × HI × HJ)
  | 0, _, _ => none
  | K+1, l4, l6 =>
    if (I m_self f_Model_members) ≤ l6 then
      kx171 l4
    else
      cp (F_X12_has (Int32.toInt64 l3) l6) fun r18 =>
      lb (fun (y19 : Int64) (y20 : Int64) =>
      lb ((y19 ||| y20)) fun x22 =>
      F_X12_proof_L128 l3 I J kx171 K x22 (l6 + 1)) fun j21 =>
      if r18 = 0 then
        j21 l4 (0 : Int64)
      else
        bx l6 12 <|
        j21 l4 (olshl (1 : Int64) (I m_member (Int32.toNatClampNeg l6)))
set_option maxRecDepth 100000 in
theorem s_X12_proof_L128 (b : Bool) (l3 : Int32) (I : HI) (J : HJ) (kx171 : Int64 → Option (Int32 × HI × HJ)) (hkx171 : ∀ (y4 : Int64), S (fI (zs b)) mX12_proof (rmd 28 0 0) 0 0 (0, 0) 171 [(0, .ref 81), (3, .int l3), (4, .long y4)] [] (zs b, I, J) (kx171 y4)) : ∀ (K : Nat) (l4 : Int64) (l6 : Int32), S (fI (zs b)) mX12_proof (rmd 28 0 0) 0 0 (0, 0) 128 [(0, .ref 81), (3, .int l3), (4, .long l4), (6, .int l6)] [] (zs b, I, J) (F_X12_proof_L128 l3 I J kx171 K l4 l6) := by
  intro K
  induction K with
  | zero => intro l4 l6; exact S.none
  | succ K ih =>
    intro l4 l6
    rw [F_X12_proof_L128]
    refine S.iload 68 3 rfl rfl ?_
    refine S.aload_n 69 0 rfl rfl ?_
    refine S.getI 70 rfl fo_X12_409 rfl rfl ?_
    refine S.icmp_ge 171 71 rfl (by decide) (fun _ => ?_) (fun _ => ?_)
    · refine S.sub (lv' := [(0, .ref 81), (3, .int l3), (4, .long l4)]) [0, 1, 2] rfl ?_
      exact hkx171 _
    · refine S.lload 72 2 rfl rfl ?_
      refine S.iload_n 73 1 rfl rfl ?_
      refine S.i2l 74 rfl ?_
      refine S.iload 75 3 rfl rfl ?_
      refine S.qSI (d := 1) (av := [.long (Int32.toInt64 l3), .int l6]) (rs := [.int l6, .long (Int32.toInt64 l3)]) 76 rfl co_X12_294 rfl rfl ⟨⟨Nat.le_of_ble_eq_true rfl, Nat.le_of_ble_eq_true rfl⟩, ⟨Nat.le_of_ble_eq_true rfl, Nat.le_of_ble_eq_true rfl⟩, Nat.le_of_ble_eq_true rfl⟩ (cm_X12_has (zs b, I, J) (Int32.toInt64 l3) l6) (fun r18 => ?_)
      refine S.jn (fun j => ∀ (y19 : Int64) (y20 : Int64), S (fI (zs b)) mX12_proof (rmd 28 0 0) 0 0 (0, 0) 162 [(0, .ref 81), (3, .int l3), (6, .int l6)] [.long y20, .long y19] (zs b, I, J) (j y19 y20)) (fun y19 y20 => ?_) (fun j21 hj21 => ?_)
      · refine S.lor 86 rfl ?_
        refine S.nml (fun x22 => ?_)
        refine S.lstore [(4, .long x22), (0, .ref 81), (3, .int l3), (6, .int l6)] 87 rfl (by decide) rfl ?_
        refine S.iinc (l6 + 1) [(6, .int (l6 + 1)), (4, .long x22), (0, .ref 81), (3, .int l3)] 88 3 rfl rfl rfl (by decide) rfl ?_
        refine S.goto 128 89 rfl (by decide) ?_
        refine S.sub (lv' := [(0, .ref 81), (3, .int l3), (4, .long x22), (6, .int (l6 + 1))]) [2, 3, 1, 0] rfl ?_
        exact ih _ _
      · refine S.if_eq 161 77 rfl (by decide) (fun _ => ?_) (fun _ => ?_)
        · refine S.lconst (0 : Int64) 85 rfl (by decide) ?_
          refine S.sub (lv' := [(0, .ref 81), (3, .int l3), (6, .int l6)]) [0, 1, 3] rfl ?_
          exact hj21 _ _
        · refine S.lconst (1 : Int64) 78 rfl (by decide) ?_
          refine S.aload_n 79 0 rfl rfl ?_
          refine S.getR 80 rfl fo_X12_80 rfl rfl rfl ?_
          refine S.iload 81 3 rfl rfl ?_
          refine S.iald 82 rfl rfl ?_
          refine S.lshl 83 rfl ?_
          refine S.goto 162 84 rfl (by decide) ?_
          refine S.sub (lv' := [(0, .ref 81), (3, .int l3), (6, .int l6)]) [0, 1, 3] rfl ?_
          exact hj21 _ _
def F_X12_proof (l1 : Int32) (I : HI) (J : HJ) : Option (Int32 × HI × HJ) :=
  lb (ui I m_self f_Model_thrown (0 : Int32)) fun I4 =>
  cp (F_X12_refusal l1 I4 J) fun r5 =>
  if 0 ≤ r5 then
    bx l1 4 <|
    cl (F_X12_findTurns (J m_pictures (Int32.toNatClampNeg l1)) I4 J) fun _ I6 J7 =>
    F_X12_proof_L32 I6 J7 (fun (y17 : Int32) =>
    F_X12_proof_L128 y17 I6 J7 (fun (y23 : Int64) =>
    lb (ui I6 m_self f_Model_rowMany (0 : Int32)) fun I24 =>
    cl (F_X12_tell y23 I24 J7) fun _ I25 J26 =>
    cp (F_J6_bitCount_0f7a4 y17) fun r27 =>
    some (r27, I25, J26)) bgf (0 : Int64) (0 : Int32)) bgf (0 : Int32) (1 : Int32)
  else
    some (r5, I4, J)
set_option maxRecDepth 100000 in
theorem cm_X12_proof (b : Bool) (l1 : Int32) (I : HI) (J : HJ) : CM mX12_proof 28 0 0 [.ref 81, .int l1] (zs b, I, J) (fI (zs b)) (F_X12_proof l1 I J) := by
  refine S.of okX12_proof pn_X12 (Nat.le_of_ble_eq_true rfl) ?_
  refine S.sub (lv' := [(0, .ref 81), (1, .int l1)]) [0, 1] rfl ?_
  unfold F_X12_proof
  refine S.aload_n 0 0 rfl rfl ?_
  refine S.iconst (0 : Int32) 1 rfl (by decide) ?_
  refine S.putI 2 rfl fo_X12_159 rfl rfl rfl rfl (fun _ hq => by cases hq; exact Or.inl rfl) (fun I4 => ?_)
  refine S.aload_n 3 0 rfl rfl ?_
  refine S.iload_n 4 1 rfl rfl ?_
  refine S.qVI (d := 2) (av := [.int l1]) (rs := [.int l1]) (b := 81) 5 rfl co_X12_427 rfl rfl rfl rfl rfl ⟨⟨Nat.le_of_ble_eq_true rfl, Nat.le_of_ble_eq_true rfl⟩, ⟨Nat.le_of_ble_eq_true rfl, Nat.le_of_ble_eq_true rfl⟩, Nat.le_of_ble_eq_true rfl⟩ (cm_X12_refusal b l1 I4 J) (fun r5 => ?_)
  refine S.istore_n [(2, .int r5), (0, .ref 81), (1, .int l1)] 6 rfl (by decide) rfl ?_
  refine S.iload_n 7 0 rfl rfl ?_
  refine S.if_ge 17 8 rfl (by decide) (fun _ => ?_) (fun _ => ?_)
  · refine S.aload_n 11 1 rfl rfl ?_
    refine S.aload_n 12 1 rfl rfl ?_
    refine S.getR 13 rfl fo_X12_77 rfl rfl rfl ?_
    refine S.iload_n 14 2 rfl rfl ?_
    refine S.lald 15 rfl rfl ?_
    refine S.cVV (d := 27) (av := [.long (J m_pictures (Int32.toNatClampNeg l1))]) (rs := [.long (J m_pictures (Int32.toNatClampNeg l1))]) (b := 81) 16 rfl co_X12_416 rfl rfl rfl rfl rfl ⟨⟨Nat.le_of_ble_eq_true rfl, Nat.le_of_ble_eq_true rfl⟩, ⟨Nat.le_of_ble_eq_true rfl, Nat.le_of_ble_eq_true rfl⟩, Nat.le_of_ble_eq_true rfl⟩ (cm_X12_findTurns b (J m_pictures (Int32.toNatClampNeg l1)) I4 J) (fun _ I6 J7 => ?_)
    refine S.iconst (0 : Int32) 17 rfl (by decide) ?_
    refine S.istore_n [(3, .int (0 : Int32)), (2, .int r5), (0, .ref 81), (1, .int l1)] 18 rfl (by decide) rfl ?_
    refine S.iconst (1 : Int32) 19 rfl (by decide) ?_
    refine S.istore [(4, .int (1 : Int32)), (3, .int (0 : Int32)), (2, .int r5), (0, .ref 81), (1, .int l1)] 20 rfl (by decide) rfl ?_
    refine S.sub (lv' := [(0, .ref 81), (3, .int (0 : Int32)), (4, .int (1 : Int32))]) [3, 1, 0] rfl ?_
    refine s_X12_proof_L32 b _ _ _ (fun y17 => ?_) bgf _ _
    refine S.lconst (0 : Int64) 64 rfl (by decide) ?_
    refine S.lstore [(4, .long (0 : Int64)), (0, .ref 81), (3, .int y17)] 65 rfl (by decide) rfl ?_
    refine S.iconst (0 : Int32) 66 rfl (by decide) ?_
    refine S.istore [(6, .int (0 : Int32)), (4, .long (0 : Int64)), (0, .ref 81), (3, .int y17)] 67 rfl (by decide) rfl ?_
    refine S.sub (lv' := [(0, .ref 81), (3, .int y17), (4, .long (0 : Int64)), (6, .int (0 : Int32))]) [2, 3, 1, 0] rfl ?_
    refine s_X12_proof_L128 b _ _ _ _ (fun y23 => ?_) bgf _ _
    refine S.aload_n 90 0 rfl rfl ?_
    refine S.iconst (0 : Int32) 91 rfl (by decide) ?_
    refine S.putI 92 rfl fo_X12_162 rfl rfl rfl rfl (fun _ hq => by cases hq; exact Or.inl rfl) (fun I24 => ?_)
    refine S.aload_n 93 0 rfl rfl ?_
    refine S.lload 94 2 rfl rfl ?_
    refine S.cVV (d := 1) (av := [.long y23]) (rs := [.long y23]) (b := 81) 95 rfl co_X12_371 rfl rfl rfl rfl rfl ⟨⟨Nat.le_of_ble_eq_true rfl, Nat.le_of_ble_eq_true rfl⟩, ⟨Nat.le_of_ble_eq_true rfl, Nat.le_of_ble_eq_true rfl⟩, Nat.le_of_ble_eq_true rfl⟩ (cm_X12_tell b y23 I24 J7) (fun _ I25 J26 => ?_)
    refine S.iload_n 96 1 rfl rfl ?_
    refine S.qSI (d := 1) (av := [.int y17]) (rs := [.int y17]) 97 rfl co_X12_436 rfl rfl ⟨⟨Nat.le_of_ble_eq_true rfl, Nat.le_of_ble_eq_true rfl⟩, ⟨Nat.le_of_ble_eq_true rfl, Nat.le_of_ble_eq_true rfl⟩, Nat.le_of_ble_eq_true rfl⟩ (cm_J6_bitCount_0f7a4 (zs b, I25, J26) y17) (fun r27 => ?_)
    exact S.iret 98 rfl rfl rfl (Nat.le_refl _) (Nat.le_refl _) rfl
  · refine S.iload_n 9 0 rfl rfl ?_
    exact S.iret 10 rfl rfl rfl (Nat.le_refl _) (Nat.le_refl _) rfl
def F_X12_never_L46 (l1 : Int32) (I : HI) (J : HJ) : Nat → Int64 → Int32 → Option (Int64 × HI × HJ)
  | 0, _, _ => none
  | K+1, l2, l4 =>
    cp (F_X12_settings I J) fun r10 =>
    if r10 ≤ l4 then
      some (l2, I, J)
    else
      bx l1 4 <|
      cp (F_X12_isTurn l4 (J m_pictures (Int32.toNatClampNeg l1)) I J) fun r11 =>
      lb (fun (y12 : Int64) =>
      F_X12_never_L46 l1 I J K y12 (l4 + 1)) fun j13 =>
      if r11 = 0 then
        j13 l2
      else
        bx l4 2187 <|
        lb ((l2 &&& ((J m_glow (Int32.toNatClampNeg l4)) ^^^ (-1 : Int64)))) fun x14 =>
        j13 x14
set_option maxRecDepth 100000 in
theorem s_X12_never_L46 (b : Bool) (l1 : Int32) (I : HI) (J : HJ) : ∀ (K : Nat) (l2 : Int64) (l4 : Int32), S (fL (zs b)) mX12_never (rmd 27 0 0) 0 0 (0, 0) 46 [(0, .ref 81), (1, .int l1), (2, .long l2), (4, .int l4)] [] (zs b, I, J) (F_X12_never_L46 l1 I J K l2 l4) := by
  intro K
  induction K with
  | zero => intro l2 l4; exact S.none
  | succ K ih =>
    intro l2 l4
    rw [F_X12_never_L46]
    refine S.iload 25 3 rfl rfl ?_
    refine S.aload_n 26 0 rfl rfl ?_
    refine S.qVI (d := 1) (av := []) (rs := []) (b := 81) 27 rfl co_X12_380 rfl rfl rfl rfl rfl ⟨⟨Nat.le_of_ble_eq_true rfl, Nat.le_of_ble_eq_true rfl⟩, ⟨Nat.le_of_ble_eq_true rfl, Nat.le_of_ble_eq_true rfl⟩, Nat.le_of_ble_eq_true rfl⟩ (cm_X12_settings b I J) (fun r10 => ?_)
    refine S.icmp_ge 90 28 rfl (by decide) (fun _ => ?_) (fun _ => ?_)
    · refine S.lload_n 48 2 rfl rfl ?_
      exact S.lret 49 rfl rfl (Nat.le_refl _) (Nat.le_refl _) rfl
    · refine S.aload_n 29 0 rfl rfl ?_
      refine S.iload 30 3 rfl rfl ?_
      refine S.aload_n 31 0 rfl rfl ?_
      refine S.getR 32 rfl fo_X12_77 rfl rfl rfl ?_
      refine S.iload_n 33 1 rfl rfl ?_
      refine S.lald 34 rfl rfl ?_
      refine S.qVI (d := 1) (av := [.int l4, .long (J m_pictures (Int32.toNatClampNeg l1))]) (rs := [.long (J m_pictures (Int32.toNatClampNeg l1)), .int l4]) (b := 81) 35 rfl co_X12_412 rfl rfl rfl rfl rfl ⟨⟨Nat.le_of_ble_eq_true rfl, Nat.le_of_ble_eq_true rfl⟩, ⟨Nat.le_of_ble_eq_true rfl, Nat.le_of_ble_eq_true rfl⟩, Nat.le_of_ble_eq_true rfl⟩ (cm_X12_isTurn b l4 (J m_pictures (Int32.toNatClampNeg l1)) I J) (fun r11 => ?_)
      refine S.jn (fun j => ∀ (y12 : Int64), S (fL (zs b)) mX12_never (rmd 27 0 0) 0 0 (0, 0) 84 [(0, .ref 81), (1, .int l1), (2, .long y12), (4, .int l4)] [] (zs b, I, J) (j y12)) (fun y12 => ?_) (fun j13 hj13 => ?_)
      · refine S.iinc (l4 + 1) [(4, .int (l4 + 1)), (0, .ref 81), (1, .int l1), (2, .long y12)] 46 3 rfl rfl rfl (by decide) rfl ?_
        refine S.goto 46 47 rfl (by decide) ?_
        refine S.sub (lv' := [(0, .ref 81), (1, .int l1), (2, .long y12), (4, .int (l4 + 1))]) [1, 2, 3, 0] rfl ?_
        exact ih _ _
      · refine S.if_eq 84 36 rfl (by decide) (fun _ => ?_) (fun _ => ?_)
        · exact hj13 _
        · refine S.lload_n 37 2 rfl rfl ?_
          refine S.aload_n 38 0 rfl rfl ?_
          refine S.getR 39 rfl fo_X12_70 rfl rfl rfl ?_
          refine S.iload 40 3 rfl rfl ?_
          refine S.lald 41 rfl rfl ?_
          refine S.ldc2 (-1 : Int64) 42 rfl ko_X12_366 ?_
          refine S.lxor 43 rfl ?_
          refine S.land 44 rfl ?_
          refine S.nml (fun x14 => ?_)
          refine S.lstore_n [(2, .long x14), (0, .ref 81), (1, .int l1), (4, .int l4)] 45 rfl (by decide) rfl ?_
          refine S.sub (lv' := [(0, .ref 81), (1, .int l1), (2, .long x14), (4, .int l4)]) [1, 2, 0, 3] rfl ?_
          exact hj13 _
def F_X12_never (l1 : Int32) (I : HI) (J : HJ) : Option (Int64 × HI × HJ) :=
  lb (ui I m_self f_Model_thrown (0 : Int32)) fun I4 =>
  cp (F_X12_in (Int32.toInt64 l1) (0 : Int64) (3 : Int64)) fun r5 =>
  if r5 = 0 then
    some ((-1 : Int64), I4, J)
  else
    cp (F_X12_canSearch I4 J) fun r6 =>
    if r6 = 0 then
      some ((-3 : Int64), I4, J)
    else
      cl (F_X12_findAll I4 J) fun _ I7 J8 =>
      bx l1 4 <|
      lb ((J8 m_pictures (Int32.toNatClampNeg l1))) fun x9 =>
      F_X12_never_L46 l1 I7 J8 bgf x9 (0 : Int32)
set_option maxRecDepth 100000 in
theorem cm_X12_never (b : Bool) (l1 : Int32) (I : HI) (J : HJ) : CM mX12_never 27 0 0 [.ref 81, .int l1] (zs b, I, J) (fL (zs b)) (F_X12_never l1 I J) := by
  refine S.of okX12_never pn_X12 (Nat.le_of_ble_eq_true rfl) ?_
  refine S.sub (lv' := [(0, .ref 81), (1, .int l1)]) [0, 1] rfl ?_
  unfold F_X12_never
  refine S.aload_n 0 0 rfl rfl ?_
  refine S.iconst (0 : Int32) 1 rfl (by decide) ?_
  refine S.putI 2 rfl fo_X12_159 rfl rfl rfl rfl (fun _ hq => by cases hq; exact Or.inl rfl) (fun I4 => ?_)
  refine S.iload_n 3 1 rfl rfl ?_
  refine S.i2l 4 rfl ?_
  refine S.lconst (0 : Int64) 5 rfl (by decide) ?_
  refine S.ldc2 (3 : Int64) 6 rfl ko_X12_230 ?_
  refine S.qSI (d := 1) (av := [.long (Int32.toInt64 l1), .long (0 : Int64), .long (3 : Int64)]) (rs := [.long (3 : Int64), .long (0 : Int64), .long (Int32.toInt64 l1)]) 7 rfl co_X12_165 rfl rfl ⟨⟨Nat.le_of_ble_eq_true rfl, Nat.le_of_ble_eq_true rfl⟩, ⟨Nat.le_of_ble_eq_true rfl, Nat.le_of_ble_eq_true rfl⟩, Nat.le_of_ble_eq_true rfl⟩ (cm_X12_in (zs b, I4, J) (Int32.toInt64 l1) (0 : Int64) (3 : Int64)) (fun r5 => ?_)
  refine S.if_ne 21 8 rfl (by decide) (fun _ => ?_) (fun _ => ?_)
  · refine S.aload_n 11 0 rfl rfl ?_
    refine S.qVI (d := 1) (av := []) (rs := []) (b := 81) 12 rfl co_X12_397 rfl rfl rfl rfl rfl ⟨⟨Nat.le_of_ble_eq_true rfl, Nat.le_of_ble_eq_true rfl⟩, ⟨Nat.le_of_ble_eq_true rfl, Nat.le_of_ble_eq_true rfl⟩, Nat.le_of_ble_eq_true rfl⟩ (cm_X12_canSearch b I4 J) (fun r6 => ?_)
    refine S.if_ne 32 13 rfl (by decide) (fun _ => ?_) (fun _ => ?_)
    · refine S.aload_n 16 0 rfl rfl ?_
      refine S.cVV (d := 26) (av := []) (rs := []) (b := 81) 17 rfl co_X12_401 rfl rfl rfl rfl rfl ⟨⟨Nat.le_of_ble_eq_true rfl, Nat.le_of_ble_eq_true rfl⟩, ⟨Nat.le_of_ble_eq_true rfl, Nat.le_of_ble_eq_true rfl⟩, Nat.le_of_ble_eq_true rfl⟩ (cm_X12_findAll b I4 J) (fun _ I7 J8 => ?_)
      refine S.aload_n 18 0 rfl rfl ?_
      refine S.getR 19 rfl fo_X12_77 rfl rfl rfl ?_
      refine S.iload_n 20 1 rfl rfl ?_
      refine S.lald 21 rfl rfl ?_
      refine S.nml (fun x9 => ?_)
      refine S.lstore_n [(2, .long x9), (0, .ref 81), (1, .int l1)] 22 rfl (by decide) rfl ?_
      refine S.iconst (0 : Int32) 23 rfl (by decide) ?_
      refine S.istore [(4, .int (0 : Int32)), (2, .long x9), (0, .ref 81), (1, .int l1)] 24 rfl (by decide) rfl ?_
      refine S.sub (lv' := [(0, .ref 81), (1, .int l1), (2, .long x9), (4, .int (0 : Int32))]) [2, 3, 1, 0] rfl ?_
      refine s_X12_never_L46 b _ _ _ bgf _ _
    · refine S.ldc2 (-3 : Int64) 14 rfl ko_X12_407 ?_
      exact S.lret 15 rfl rfl (Nat.le_refl _) (Nat.le_refl _) rfl
  · refine S.ldc2 (-1 : Int64) 9 rfl ko_X12_366 ?_
    exact S.lret 10 rfl rfl (Nat.le_refl _) (Nat.le_refl _) rfl
def F_X12_changed_L11 (I : HI) (J : HJ) : Nat → Int32 → Int32 → Int32 → Int32 → Option Int32
  | 0, _, _, _, _ => none
  | K+1, l3, l4, l5, l6 =>
    if (I m_self f_Model_wide) ≤ l6 then
      some l3
    else
      nzi (3 : Int32) <|
      nzi (3 : Int32) <|
      lb (fun (y4 : Int32) (y5 : Int32) =>
      lb ((y4 + y5)) fun x7 =>
      nzi (3 : Int32) <|
      lb ((l4 / (3 : Int32))) fun x8 =>
      nzi (3 : Int32) <|
      lb ((l5 / (3 : Int32))) fun x9 =>
      F_X12_changed_L11 I J K x7 x8 x9 (l6 + 1)) fun j6 =>
      if (orem l4 (3 : Int32)) = (orem l5 (3 : Int32)) then
        j6 l3 (0 : Int32)
      else
        j6 l3 (1 : Int32)
set_option maxRecDepth 100000 in
theorem s_X12_changed_L11 (b : Bool) (I : HI) (J : HJ) : ∀ (K : Nat) (l3 : Int32) (l4 : Int32) (l5 : Int32) (l6 : Int32), S (pI (zs b, I, J)) mX12_changed (rmd 1 0 0) 0 0 (0, 0) 11 [(0, .ref 81), (3, .int l3), (4, .int l4), (5, .int l5), (6, .int l6)] [] (zs b, I, J) (F_X12_changed_L11 I J K l3 l4 l5 l6) := by
  intro K
  induction K with
  | zero => intro l3 l4 l5 l6; exact S.none
  | succ K ih =>
    intro l3 l4 l5 l6
    rw [F_X12_changed_L11]
    refine S.iload 8 4 rfl rfl ?_
    refine S.aload_n 9 0 rfl rfl ?_
    refine S.getI 10 rfl fo_X12_9 rfl rfl ?_
    refine S.icmp_ge 57 11 rfl (by decide) (fun _ => ?_) (fun _ => ?_)
    · refine S.iload_n 35 1 rfl rfl ?_
      exact S.iret 36 rfl rfl rfl (Nat.le_refl _) (Nat.le_refl _) rfl
    · refine S.iload_n 12 1 rfl rfl ?_
      refine S.iload 13 2 rfl rfl ?_
      refine S.iconst (3 : Int32) 14 rfl (by decide) ?_
      refine S.irem 15 rfl ?_
      refine S.iload 16 3 rfl rfl ?_
      refine S.iconst (3 : Int32) 17 rfl (by decide) ?_
      refine S.irem 18 rfl ?_
      refine S.jn (fun j => ∀ (y4 : Int32) (y5 : Int32), S (pI (zs b, I, J)) mX12_changed (rmd 1 0 0) 0 0 (0, 0) 37 [(0, .ref 81), (4, .int l4), (5, .int l5), (6, .int l6)] [.int y5, .int y4] (zs b, I, J) (j y4 y5)) (fun y4 y5 => ?_) (fun j6 hj6 => ?_)
      · refine S.iadd 23 rfl ?_
        refine S.nmi (fun x7 => ?_)
        refine S.istore_n [(3, .int x7), (0, .ref 81), (4, .int l4), (5, .int l5), (6, .int l6)] 24 rfl (by decide) rfl ?_
        refine S.iload 25 2 rfl rfl ?_
        refine S.iconst (3 : Int32) 26 rfl (by decide) ?_
        refine S.idiv 27 rfl ?_
        refine S.nmi (fun x8 => ?_)
        refine S.istore [(4, .int x8), (3, .int x7), (0, .ref 81), (5, .int l5), (6, .int l6)] 28 rfl (by decide) rfl ?_
        refine S.iload 29 3 rfl rfl ?_
        refine S.iconst (3 : Int32) 30 rfl (by decide) ?_
        refine S.idiv 31 rfl ?_
        refine S.nmi (fun x9 => ?_)
        refine S.istore [(5, .int x9), (4, .int x8), (3, .int x7), (0, .ref 81), (6, .int l6)] 32 rfl (by decide) rfl ?_
        refine S.iinc (l6 + 1) [(6, .int (l6 + 1)), (5, .int x9), (4, .int x8), (3, .int x7), (0, .ref 81)] 33 4 rfl rfl rfl (by decide) rfl ?_
        refine S.goto 11 34 rfl (by decide) ?_
        refine S.sub (lv' := [(0, .ref 81), (3, .int x7), (4, .int x8), (5, .int x9), (6, .int (l6 + 1))]) [4, 3, 2, 1, 0] rfl ?_
        exact ih _ _ _ _
      · refine S.icmp_eq 36 19 rfl (by decide) (fun _ => ?_) (fun _ => ?_)
        · refine S.iconst (0 : Int32) 22 rfl (by decide) ?_
          refine S.sub (lv' := [(0, .ref 81), (4, .int l4), (5, .int l5), (6, .int l6)]) [0, 2, 3, 4] rfl ?_
          exact hj6 _ _
        · refine S.iconst (1 : Int32) 20 rfl (by decide) ?_
          refine S.goto 37 21 rfl (by decide) ?_
          refine S.sub (lv' := [(0, .ref 81), (4, .int l4), (5, .int l5), (6, .int l6)]) [0, 2, 3, 4] rfl ?_
          exact hj6 _ _
def F_X12_changed (l1 : Int32) (l2 : Int32) (I : HI) (J : HJ) : Option Int32 :=
  F_X12_changed_L11 I J bgf (0 : Int32) l1 l2 (0 : Int32)
set_option maxRecDepth 100000 in
theorem cm_X12_changed (b : Bool) (l1 : Int32) (l2 : Int32) (I : HI) (J : HJ) : CM mX12_changed 1 0 0 [.ref 81, .int l1, .int l2] (zs b, I, J) (pI (zs b, I, J)) (F_X12_changed l1 l2 I J) := by
  refine S.of okX12_changed pn_X12 (Nat.le_of_ble_eq_true rfl) ?_
  refine S.sub (lv' := [(0, .ref 81), (1, .int l1), (2, .int l2)]) [0, 1, 2] rfl ?_
  unfold F_X12_changed
  refine S.iconst (0 : Int32) 0 rfl (by decide) ?_
  refine S.istore_n [(3, .int (0 : Int32)), (0, .ref 81), (1, .int l1), (2, .int l2)] 1 rfl (by decide) rfl ?_
  refine S.iload_n 2 2 rfl rfl ?_
  refine S.istore [(4, .int l1), (3, .int (0 : Int32)), (0, .ref 81), (1, .int l1), (2, .int l2)] 3 rfl (by decide) rfl ?_
  refine S.iload_n 4 4 rfl rfl ?_
  refine S.istore [(5, .int l2), (4, .int l1), (3, .int (0 : Int32)), (0, .ref 81), (1, .int l1), (2, .int l2)] 5 rfl (by decide) rfl ?_
  refine S.iconst (0 : Int32) 6 rfl (by decide) ?_
  refine S.istore [(6, .int (0 : Int32)), (5, .int l2), (4, .int l1), (3, .int (0 : Int32)), (0, .ref 81), (1, .int l1), (2, .int l2)] 7 rfl (by decide) rfl ?_
  refine S.sub (lv' := [(0, .ref 81), (3, .int (0 : Int32)), (4, .int l1), (5, .int l2), (6, .int (0 : Int32))]) [4, 3, 2, 1, 0] rfl ?_
  refine s_X12_changed_L11 b _ _ bgf _ _ _ _
def F_X12_goOrders_L65 (rc : Int32 → Int32 → Int32 → Int32 → HI → HJ → Option (Unit × HI × HJ)) (l1 : Int32) (l2 : Int32) (l3 : Int32) (l4 : Int32) : Nat → Int32 → HI → HJ → Option (Unit × HI × HJ)
  | 0, _, _, _ => none
  | K+1, l5, I, J =>
    if (I m_self f_Model_turns) ≤ l5 then
      some ((), I, J)
    else
      cp (F_X12_has (Int32.toInt64 l2) l5) fun r4 =>
      lb (fun (I5 : HI) (J6 : HJ) =>
      F_X12_goOrders_L65 rc l1 l2 l3 l4 K (l5 + 1) I5 J6) fun j7 =>
      if r4 = 0 then
        bx l5 12 <|
        bx l1 6 <|
        lb (ui I m_order (Int32.toNatClampNeg l1) (I m_turn (Int32.toNatClampNeg l5))) fun I8 =>
        bx l5 12 <|
        bx l5 12 <|
        cp (F_X12_changed l3 (I8 m_turn (Int32.toNatClampNeg l5)) I8 J) fun r9 =>
        cl (rc (l1 + (1 : Int32)) (l2 ||| (oshl (1 : Int32) l5)) (I8 m_turn (Int32.toNatClampNeg l5)) (l4 + r9) I8 J) fun _ I10 J11 =>
        j7 I10 J11
      else
        j7 I J
set_option maxRecDepth 100000 in
theorem s_X12_goOrders_L65 (b : Bool) (rc : Int32 → Int32 → Int32 → Int32 → HI → HJ → Option (Unit × HI × HJ)) (dn : Nat) (hdn : 1 ≤ dn) (hrc : ∀ (a0 : Int32) (a1 : Int32) (a2 : Int32) (a3 : Int32) (I : HI) (J : HJ), CM mX12_goOrders dn 0 0 [.ref 81, .int a0, .int a1, .int a2, .int a3] (zs b, I, J) (fV (zs b)) (rc a0 a1 a2 a3 I J)) (l1 : Int32) (l2 : Int32) (l3 : Int32) (l4 : Int32) : ∀ (K : Nat) (l5 : Int32) (I : HI) (J : HJ), S (fV (zs b)) mX12_goOrders (rmd (dn + 1) 0 0) 0 0 (0, 0) 65 [(0, .ref 81), (1, .int l1), (2, .int l2), (3, .int l3), (4, .int l4), (5, .int l5)] [] (zs b, I, J) (F_X12_goOrders_L65 rc l1 l2 l3 l4 K l5 I J) := by
  intro K
  induction K with
  | zero => intro l5 I J; exact S.none
  | succ K ih =>
    intro l5 I J
    rw [F_X12_goOrders_L65]
    refine S.iload 34 5 rfl rfl ?_
    refine S.aload_n 35 0 rfl rfl ?_
    refine S.getI 36 rfl fo_X12_424 rfl rfl ?_
    refine S.icmp_ge 141 37 rfl (by decide) (fun _ => ?_) (fun _ => ?_)
    · exact S.vret 77 rfl rfl (Nat.le_refl _) (Nat.le_refl _) rfl
    · refine S.iload_n 38 2 rfl rfl ?_
      refine S.i2l 39 rfl ?_
      refine S.iload 40 5 rfl rfl ?_
      refine S.qSI (d := 1) (av := [.long (Int32.toInt64 l2), .int l5]) (rs := [.int l5, .long (Int32.toInt64 l2)]) 41 rfl co_X12_294 rfl rfl ⟨⟨by show 1 + 1 ≤ dn + 1; omega, by show 8 + (3 + 11) + 64 * (1) ≤ 64 * (dn + 1); omega⟩, ⟨Nat.le_refl _, Nat.le_refl _⟩, Nat.le_of_ble_eq_true rfl⟩ (cm_X12_has (zs b, I, J) (Int32.toInt64 l2) l5) (fun r4 => ?_)
      refine S.jn (fun j => ∀ (I5 : HI) (J6 : HJ), S (fV (zs b)) mX12_goOrders (rmd (dn + 1) 0 0) 0 0 (0, 0) 135 [(0, .ref 81), (1, .int l1), (2, .int l2), (3, .int l3), (4, .int l4), (5, .int l5)] [] (zs b, I5, J6) (j I5 J6)) (fun I5 J6 => ?_) (fun j7 hj7 => ?_)
      · refine S.iinc (l5 + 1) [(5, .int (l5 + 1)), (0, .ref 81), (1, .int l1), (2, .int l2), (3, .int l3), (4, .int l4)] 75 5 rfl rfl rfl (by decide) rfl ?_
        refine S.goto 65 76 rfl (by decide) ?_
        refine S.sub (lv' := [(0, .ref 81), (1, .int l1), (2, .int l2), (3, .int l3), (4, .int l4), (5, .int (l5 + 1))]) [1, 2, 3, 4, 5, 0] rfl ?_
        exact ih _ _ _
      · refine S.if_eq 87 42 rfl (by decide) (fun _ => ?_) (fun _ => ?_)
        · refine S.aload_n 44 0 rfl rfl ?_
          refine S.getR 45 rfl fo_X12_101 rfl rfl rfl ?_
          refine S.iload_n 46 1 rfl rfl ?_
          refine S.aload_n 47 0 rfl rfl ?_
          refine S.getR 48 rfl fo_X12_98 rfl rfl rfl ?_
          refine S.iload 49 5 rfl rfl ?_
          refine S.iald 50 rfl rfl ?_
          refine S.iast 51 rfl rfl (fun I8 => ?_)
          refine S.aload_n 52 0 rfl rfl ?_
          refine S.iload_n 53 1 rfl rfl ?_
          refine S.iconst (1 : Int32) 54 rfl (by decide) ?_
          refine S.iadd 55 rfl ?_
          refine S.iload_n 56 2 rfl rfl ?_
          refine S.iconst (1 : Int32) 57 rfl (by decide) ?_
          refine S.iload 58 5 rfl rfl ?_
          refine S.ishl 59 rfl ?_
          refine S.ior 60 rfl ?_
          refine S.aload_n 61 0 rfl rfl ?_
          refine S.getR 62 rfl fo_X12_98 rfl rfl rfl ?_
          refine S.iload 63 5 rfl rfl ?_
          refine S.iald 64 rfl rfl ?_
          refine S.iload 65 4 rfl rfl ?_
          refine S.aload_n 66 0 rfl rfl ?_
          refine S.iload_n 67 3 rfl rfl ?_
          refine S.aload_n 68 0 rfl rfl ?_
          refine S.getR 69 rfl fo_X12_98 rfl rfl rfl ?_
          refine S.iload 70 5 rfl rfl ?_
          refine S.iald 71 rfl rfl ?_
          refine S.qVI (d := 1) (av := [.int l3, .int (I8 m_turn (Int32.toNatClampNeg l5))]) (rs := [.int (I8 m_turn (Int32.toNatClampNeg l5)), .int l3]) (b := 81) 72 rfl co_X12_441 rfl rfl rfl rfl rfl ⟨⟨by show 1 + 1 ≤ dn + 1; omega, by show 8 + (7 + 11) + 64 * (1) ≤ 64 * (dn + 1); omega⟩, ⟨Nat.le_refl _, Nat.le_refl _⟩, Nat.le_of_ble_eq_true rfl⟩ (cm_X12_changed b l3 (I8 m_turn (Int32.toNatClampNeg l5)) I8 J) (fun r9 => ?_)
          refine S.iadd 73 rfl ?_
          refine S.cVV (d := dn) (av := [.int (l1 + (1 : Int32)), .int (l2 ||| (oshl (1 : Int32) l5)), .int (I8 m_turn (Int32.toNatClampNeg l5)), .int (l4 + r9)]) (rs := [.int (l4 + r9), .int (I8 m_turn (Int32.toNatClampNeg l5)), .int (l2 ||| (oshl (1 : Int32) l5)), .int (l1 + (1 : Int32))]) (b := 81) 74 rfl co_X12_444 rfl rfl rfl rfl rfl ⟨⟨by show dn + 1 ≤ dn + 1; omega, by show 8 + (6 + 11) + 64 * (dn) ≤ 64 * (dn + 1); omega⟩, ⟨Nat.le_refl _, Nat.le_refl _⟩, Nat.le_of_ble_eq_true rfl⟩ (hrc (l1 + (1 : Int32)) (l2 ||| (oshl (1 : Int32) l5)) (I8 m_turn (Int32.toNatClampNeg l5)) (l4 + r9) I8 J) (fun _ I10 J11 => ?_)
          exact hj7 _ _
        · refine S.goto 135 43 rfl (by decide) ?_
          exact hj7 _ _
def F_X12_goOrders_L35 (rc : Int32 → Int32 → Int32 → Int32 → HI → HJ → Option (Unit × HI × HJ)) (l1 : Int32) (J : HJ) : Nat → Int32 → HI → Option (Unit × HI × HJ)
  | 0, _, _ => none
  | K+1, l5, I =>
    if l1 ≤ l5 then
      some ((), I, J)
    else
      bx l5 6 <|
      bx l5 6 <|
      lb (ui I m_bestOrder (Int32.toNatClampNeg l5) (I m_order (Int32.toNatClampNeg l5))) fun I14 =>
      F_X12_goOrders_L35 rc l1 J K (l5 + 1) I14
set_option maxRecDepth 100000 in
theorem s_X12_goOrders_L35 (b : Bool) (rc : Int32 → Int32 → Int32 → Int32 → HI → HJ → Option (Unit × HI × HJ)) (dn : Nat) (hdn : 1 ≤ dn) (hrc : ∀ (a0 : Int32) (a1 : Int32) (a2 : Int32) (a3 : Int32) (I : HI) (J : HJ), CM mX12_goOrders dn 0 0 [.ref 81, .int a0, .int a1, .int a2, .int a3] (zs b, I, J) (fV (zs b)) (rc a0 a1 a2 a3 I J)) (l1 : Int32) (J : HJ) : ∀ (K : Nat) (l5 : Int32) (I : HI), S (fV (zs b)) mX12_goOrders (rmd (dn + 1) 0 0) 0 0 (0, 0) 35 [(0, .ref 81), (1, .int l1), (5, .int l5)] [] (zs b, I, J) (F_X12_goOrders_L35 rc l1 J K l5 I) := by
  intro K
  induction K with
  | zero => intro l5 I; exact S.none
  | succ K ih =>
    intro l5 I
    rw [F_X12_goOrders_L35]
    refine S.iload 18 2 rfl rfl ?_
    refine S.iload_n 19 1 rfl rfl ?_
    refine S.icmp_ge 61 20 rfl (by decide) (fun _ => ?_) (fun _ => ?_)
    · exact S.vret 31 rfl rfl (Nat.le_refl _) (Nat.le_refl _) rfl
    · refine S.aload_n 21 0 rfl rfl ?_
      refine S.getR 22 rfl fo_X12_104 rfl rfl rfl ?_
      refine S.iload 23 2 rfl rfl ?_
      refine S.aload_n 24 0 rfl rfl ?_
      refine S.getR 25 rfl fo_X12_101 rfl rfl rfl ?_
      refine S.iload 26 2 rfl rfl ?_
      refine S.iald 27 rfl rfl ?_
      refine S.iast 28 rfl rfl (fun I14 => ?_)
      refine S.iinc (l5 + 1) [(5, .int (l5 + 1)), (0, .ref 81), (1, .int l1)] 29 2 rfl rfl rfl (by decide) rfl ?_
      refine S.goto 35 30 rfl (by decide) ?_
      refine S.sub (lv' := [(0, .ref 81), (1, .int l1), (5, .int (l5 + 1))]) [1, 2, 0] rfl ?_
      exact ih _ _
def F_X12_goOrders_B (rc : Int32 → Int32 → Int32 → Int32 → HI → HJ → Option (Unit × HI × HJ)) (l1 : Int32) (l2 : Int32) (l3 : Int32) (l4 : Int32) (I : HI) (J : HJ) : Option (Unit × HI × HJ) :=
  if l1 = (I m_self f_Model_turns) then
    lb (
    lb (ui I m_self f_Model_leastChanges l4) fun I13 =>
    F_X12_goOrders_L35 rc l1 J bgf (0 : Int32) I13) fun j12 =>
    if (I m_self f_Model_leastChanges) = (-1 : Int32) then
      j12
    else
      if l4 < (I m_self f_Model_leastChanges) then
        j12
      else
        some ((), I, J)
  else
    F_X12_goOrders_L65 rc l1 l2 l3 l4 bgf (0 : Int32) I J
set_option maxRecDepth 100000 in
theorem cm_X12_goOrders_B (b : Bool) (rc : Int32 → Int32 → Int32 → Int32 → HI → HJ → Option (Unit × HI × HJ)) (dn : Nat) (hdn : 1 ≤ dn) (hrc : ∀ (a0 : Int32) (a1 : Int32) (a2 : Int32) (a3 : Int32) (I : HI) (J : HJ), CM mX12_goOrders dn 0 0 [.ref 81, .int a0, .int a1, .int a2, .int a3] (zs b, I, J) (fV (zs b)) (rc a0 a1 a2 a3 I J)) (l1 : Int32) (l2 : Int32) (l3 : Int32) (l4 : Int32) (I : HI) (J : HJ) : CM mX12_goOrders (dn + 1) 0 0 [.ref 81, .int l1, .int l2, .int l3, .int l4] (zs b, I, J) (fV (zs b)) (F_X12_goOrders_B rc l1 l2 l3 l4 I J) := by
  refine S.of okX12_goOrders pn_X12 (Nat.le_of_ble_eq_true rfl) ?_
  refine S.sub (lv' := [(0, .ref 81), (1, .int l1), (2, .int l2), (3, .int l3), (4, .int l4)]) [0, 1, 2, 3, 4] rfl ?_
  unfold F_X12_goOrders_B
  refine S.iload_n 0 1 rfl rfl ?_
  refine S.aload_n 1 0 rfl rfl ?_
  refine S.getI 2 rfl fo_X12_424 rfl rfl ?_
  refine S.icmp_ne 62 3 rfl (by decide) (fun _ => ?_) (fun _ => ?_)
  · refine S.iconst (0 : Int32) 32 rfl (by decide) ?_
    refine S.istore [(5, .int (0 : Int32)), (0, .ref 81), (1, .int l1), (2, .int l2), (3, .int l3), (4, .int l4)] 33 rfl (by decide) rfl ?_
    refine S.sub (lv' := [(0, .ref 81), (1, .int l1), (2, .int l2), (3, .int l3), (4, .int l4), (5, .int (0 : Int32))]) [1, 2, 3, 4, 5, 0] rfl ?_
    refine s_X12_goOrders_L65 b rc dn hdn hrc _ _ _ _ bgf _ _ _
  · refine S.aload_n 4 0 rfl rfl ?_
    refine S.getI 5 rfl fo_X12_438 rfl rfl ?_
    refine S.iconst (-1 : Int32) 6 rfl (by decide) ?_
    refine S.jn (fun j => S (fV (zs b)) mX12_goOrders (rmd (dn + 1) 0 0) 0 0 (0, 0) 26 [(0, .ref 81), (1, .int l1), (4, .int l4)] [] (zs b, I, J) (j)) ?_ (fun j12 hj12 => ?_)
    · refine S.aload_n 13 0 rfl rfl ?_
      refine S.iload 14 2 rfl rfl ?_
      refine S.putI 15 rfl fo_X12_438 rfl rfl rfl rfl (fun _ hq => by cases hq; exact Or.inl rfl) (fun I13 => ?_)
      refine S.iconst (0 : Int32) 16 rfl (by decide) ?_
      refine S.istore [(5, .int (0 : Int32)), (0, .ref 81), (1, .int l1), (4, .int l4)] 17 rfl (by decide) rfl ?_
      refine S.sub (lv' := [(0, .ref 81), (1, .int l1), (5, .int (0 : Int32))]) [1, 2, 0] rfl ?_
      refine s_X12_goOrders_L35 b rc dn hdn hrc _ _ bgf _ _
    · refine S.icmp_eq 26 7 rfl (by decide) (fun _ => ?_) (fun _ => ?_)
      · refine S.sub (lv' := [(0, .ref 81), (1, .int l1), (4, .int l4)]) [0, 1, 4] rfl ?_
        exact hj12
      · refine S.iload 8 4 rfl rfl ?_
        refine S.aload_n 9 0 rfl rfl ?_
        refine S.getI 10 rfl fo_X12_438 rfl rfl ?_
        refine S.icmp_lt 26 11 rfl (by decide) (fun _ => ?_) (fun _ => ?_)
        · refine S.sub (lv' := [(0, .ref 81), (1, .int l1), (4, .int l4)]) [0, 1, 4] rfl ?_
          exact hj12
        · exact S.vret 12 rfl rfl (Nat.le_refl _) (Nat.le_refl _) rfl
def F_X12_goOrders : Nat → Int32 → Int32 → Int32 → Int32 → HI → HJ → Option (Unit × HI × HJ)
  | 0, _, _, _, _, _, _ => none
  | n+1, l1, l2, l3, l4, I, J => F_X12_goOrders_B (F_X12_goOrders n) l1 l2 l3 l4 I J
theorem cm_X12_goOrders (b : Bool) : ∀ (n : Nat) (l1 : Int32) (l2 : Int32) (l3 : Int32) (l4 : Int32) (I : HI) (J : HJ), CM mX12_goOrders (1 + 1 * n) 0 0 [.ref 81, .int l1, .int l2, .int l3, .int l4] (zs b, I, J) (fV (zs b)) (F_X12_goOrders n l1 l2 l3 l4 I J) := by
  intro n
  induction n with
  | zero => intro l1 l2 l3 l4 I J r hf; cases hf
  | succ n ih =>
    intro l1 l2 l3 l4 I J
    have e : 1 + 1 * (n + 1) = 1 + 1 * n + 1 := by omega
    rw [e]
    exact cm_X12_goOrders_B b (F_X12_goOrders n) (1 + 1 * n) (by omega) (ih) l1 l2 l3 l4 I J
def F_X12_changes_L65 (kx90 : HI → HJ → Option (Int32 × HI × HJ)) : Nat → Int32 → HI → HJ → Option (Int32 × HI × HJ)
  | 0, _, _, _ => none
  | K+1, l3, I, J =>
    if (I m_self f_Model_turns) ≤ l3 then
      kx90 I J
    else
      bx l3 6 <|
      cl (F_X12_tell (Int32.toInt64 (I m_bestOrder (Int32.toNatClampNeg l3))) I J) fun _ I13 J14 =>
      F_X12_changes_L65 kx90 K (l3 + 1) I13 J14
set_option maxRecDepth 100000 in
theorem s_X12_changes_L65 (b : Bool) (kx90 : HI → HJ → Option (Int32 × HI × HJ)) (hkx90 : ∀ (I1 : HI) (J1 : HJ), S (fI (zs b)) mX12_changes (rmd 29 0 0) 0 0 (0, 0) 90 [(0, .ref 81)] [] (zs b, I1, J1) (kx90 I1 J1)) : ∀ (K : Nat) (l3 : Int32) (I : HI) (J : HJ), S (fI (zs b)) mX12_changes (rmd 29 0 0) 0 0 (0, 0) 65 [(0, .ref 81), (3, .int l3)] [] (zs b, I, J) (F_X12_changes_L65 kx90 K l3 I J) := by
  intro K
  induction K with
  | zero => intro l3 I J; exact S.none
  | succ K ih =>
    intro l3 I J
    rw [F_X12_changes_L65]
    refine S.iload_n 40 1 rfl rfl ?_
    refine S.aload_n 41 0 rfl rfl ?_
    refine S.getI 42 rfl fo_X12_424 rfl rfl ?_
    refine S.icmp_ge 90 43 rfl (by decide) (fun _ => ?_) (fun _ => ?_)
    · refine S.sub (lv' := [(0, .ref 81)]) [0] rfl ?_
      exact hkx90 _ _
    · refine S.aload_n 44 0 rfl rfl ?_
      refine S.aload_n 45 0 rfl rfl ?_
      refine S.getR 46 rfl fo_X12_104 rfl rfl rfl ?_
      refine S.iload_n 47 1 rfl rfl ?_
      refine S.iald 48 rfl rfl ?_
      refine S.i2l 49 rfl ?_
      refine S.cVV (d := 1) (av := [.long (Int32.toInt64 (I m_bestOrder (Int32.toNatClampNeg l3)))]) (rs := [.long (Int32.toInt64 (I m_bestOrder (Int32.toNatClampNeg l3)))]) (b := 81) 50 rfl co_X12_371 rfl rfl rfl rfl rfl ⟨⟨Nat.le_of_ble_eq_true rfl, Nat.le_of_ble_eq_true rfl⟩, ⟨Nat.le_of_ble_eq_true rfl, Nat.le_of_ble_eq_true rfl⟩, Nat.le_of_ble_eq_true rfl⟩ (cm_X12_tell b (Int32.toInt64 (I m_bestOrder (Int32.toNatClampNeg l3))) I J) (fun _ I13 J14 => ?_)
      refine S.iinc (l3 + 1) [(3, .int (l3 + 1)), (0, .ref 81)] 51 1 rfl rfl rfl (by decide) rfl ?_
      refine S.goto 65 52 rfl (by decide) ?_
      refine S.sub (lv' := [(0, .ref 81), (3, .int (l3 + 1))]) [1, 0] rfl ?_
      exact ih _ _ _
def F_X12_changes (l1 : Int32) (I : HI) (J : HJ) : Option (Int32 × HI × HJ) :=
  lb (ui I m_self f_Model_thrown (0 : Int32)) fun I4 =>
  cp (F_X12_refusal l1 I4 J) fun r5 =>
  if 0 ≤ r5 then
    bx l1 4 <|
    cl (F_X12_findParted (J m_pictures (Int32.toNatClampNeg l1)) I4 J) fun r6 I7 J8 =>
    if r6 = 0 then
      some ((-2 : Int32), I7, J8)
    else
      if (I7 m_self f_Model_turns) ≤ (6 : Int32) then
        lb (ui I7 m_self f_Model_leastChanges (-1 : Int32)) fun I9 =>
        cl (F_X12_goOrders 20 (0 : Int32) (0 : Int32) (0 : Int32) (0 : Int32) I9 J8) fun _ I10 J11 =>
        lb (ui I10 m_self f_Model_rowMany (0 : Int32)) fun I12 =>
        F_X12_changes_L65 (fun (I15 : HI) (J16 : HJ) =>
        some ((I15 m_self f_Model_leastChanges), I15, J16)) bgf (0 : Int32) I12 J11
      else
        some ((-5 : Int32), I7, J8)
  else
    some (r5, I4, J)
set_option maxRecDepth 100000 in
theorem cm_X12_changes (b : Bool) (l1 : Int32) (I : HI) (J : HJ) : CM mX12_changes 29 0 0 [.ref 81, .int l1] (zs b, I, J) (fI (zs b)) (F_X12_changes l1 I J) := by
  refine S.of okX12_changes pn_X12 (Nat.le_of_ble_eq_true rfl) ?_
  refine S.sub (lv' := [(0, .ref 81), (1, .int l1)]) [0, 1] rfl ?_
  unfold F_X12_changes
  refine S.aload_n 0 0 rfl rfl ?_
  refine S.iconst (0 : Int32) 1 rfl (by decide) ?_
  refine S.putI 2 rfl fo_X12_159 rfl rfl rfl rfl (fun _ hq => by cases hq; exact Or.inl rfl) (fun I4 => ?_)
  refine S.aload_n 3 0 rfl rfl ?_
  refine S.iload_n 4 1 rfl rfl ?_
  refine S.qVI (d := 2) (av := [.int l1]) (rs := [.int l1]) (b := 81) 5 rfl co_X12_427 rfl rfl rfl rfl rfl ⟨⟨Nat.le_of_ble_eq_true rfl, Nat.le_of_ble_eq_true rfl⟩, ⟨Nat.le_of_ble_eq_true rfl, Nat.le_of_ble_eq_true rfl⟩, Nat.le_of_ble_eq_true rfl⟩ (cm_X12_refusal b l1 I4 J) (fun r5 => ?_)
  refine S.istore_n [(2, .int r5), (0, .ref 81), (1, .int l1)] 6 rfl (by decide) rfl ?_
  refine S.iload_n 7 0 rfl rfl ?_
  refine S.if_ge 17 8 rfl (by decide) (fun _ => ?_) (fun _ => ?_)
  · refine S.aload_n 11 1 rfl rfl ?_
    refine S.aload_n 12 1 rfl rfl ?_
    refine S.getR 13 rfl fo_X12_77 rfl rfl rfl ?_
    refine S.iload_n 14 2 rfl rfl ?_
    refine S.lald 15 rfl rfl ?_
    refine S.cVI (d := 28) (av := [.long (J m_pictures (Int32.toNatClampNeg l1))]) (rs := [.long (J m_pictures (Int32.toNatClampNeg l1))]) (b := 81) 16 rfl co_X12_430 rfl rfl rfl rfl rfl ⟨⟨Nat.le_of_ble_eq_true rfl, Nat.le_of_ble_eq_true rfl⟩, ⟨Nat.le_of_ble_eq_true rfl, Nat.le_of_ble_eq_true rfl⟩, Nat.le_of_ble_eq_true rfl⟩ (cm_X12_findParted b (J m_pictures (Int32.toNatClampNeg l1)) I4 J) (fun r6 I7 J8 => ?_)
    refine S.if_ne 33 17 rfl (by decide) (fun _ => ?_) (fun _ => ?_)
    · refine S.aload_n 20 1 rfl rfl ?_
      refine S.getI 21 rfl fo_X12_424 rfl rfl ?_
      refine S.bipush (6 : Int32) 22 rfl (by decide) ?_
      refine S.icmp_le 45 23 rfl (by decide) (fun _ => ?_) (fun _ => ?_)
      · refine S.aload_n 26 1 rfl rfl ?_
        refine S.iconst (-1 : Int32) 27 rfl (by decide) ?_
        refine S.putI 28 rfl fo_X12_438 rfl rfl rfl rfl (fun _ hq => by cases hq; exact Or.inl rfl) (fun I9 => ?_)
        refine S.aload_n 29 1 rfl rfl ?_
        refine S.iconst (0 : Int32) 30 rfl (by decide) ?_
        refine S.iconst (0 : Int32) 31 rfl (by decide) ?_
        refine S.iconst (0 : Int32) 32 rfl (by decide) ?_
        refine S.iconst (0 : Int32) 33 rfl (by decide) ?_
        refine S.cVV (d := 21) (av := [.int (0 : Int32), .int (0 : Int32), .int (0 : Int32), .int (0 : Int32)]) (rs := [.int (0 : Int32), .int (0 : Int32), .int (0 : Int32), .int (0 : Int32)]) (b := 81) 34 rfl co_X12_444 rfl rfl rfl rfl rfl ⟨⟨Nat.le_of_ble_eq_true rfl, Nat.le_of_ble_eq_true rfl⟩, ⟨Nat.le_of_ble_eq_true rfl, Nat.le_of_ble_eq_true rfl⟩, Nat.le_of_ble_eq_true rfl⟩ (cm_X12_goOrders b 20 (0 : Int32) (0 : Int32) (0 : Int32) (0 : Int32) I9 J8) (fun _ I10 J11 => ?_)
        refine S.aload_n 35 1 rfl rfl ?_
        refine S.iconst (0 : Int32) 36 rfl (by decide) ?_
        refine S.putI 37 rfl fo_X12_162 rfl rfl rfl rfl (fun _ hq => by cases hq; exact Or.inl rfl) (fun I12 => ?_)
        refine S.iconst (0 : Int32) 38 rfl (by decide) ?_
        refine S.istore_n [(3, .int (0 : Int32)), (2, .int r5), (0, .ref 81), (1, .int l1)] 39 rfl (by decide) rfl ?_
        refine S.sub (lv' := [(0, .ref 81), (3, .int (0 : Int32))]) [2, 0] rfl ?_
        refine s_X12_changes_L65 b _ (fun I15 J16 => ?_) bgf _ _ _
        refine S.aload_n 53 0 rfl rfl ?_
        refine S.getI 54 rfl fo_X12_438 rfl rfl ?_
        exact S.iret 55 rfl rfl rfl (Nat.le_refl _) (Nat.le_refl _) rfl
      · refine S.bipush (-5 : Int32) 24 rfl (by decide) ?_
        exact S.iret 25 rfl rfl rfl (Nat.le_refl _) (Nat.le_refl _) rfl
    · refine S.bipush (-2 : Int32) 18 rfl (by decide) ?_
      exact S.iret 19 rfl rfl rfl (Nat.le_refl _) (Nat.le_refl _) rfl
  · refine S.iload_n 9 0 rfl rfl ?_
    exact S.iret 10 rfl rfl rfl (Nat.le_refl _) (Nat.le_refl _) rfl
def F_X12_sumOf_L5 (l1 : Int32) (I : HI) (J : HJ) : Nat → Int64 → Int32 → Option Int64
  | 0, _, _ => none
  | K+1, l2, l4 =>
    if (I m_self f_Model_turns) ≤ l4 then
      some l2
    else
      bx l4 12 <|
      bx (((12 : Int32) * l4) + l1) 144 <|
      lb ((l2 + ((Int32.toInt64 (I m_slots (Int32.toNatClampNeg l4))) * (J m_lightIn (Int32.toNatClampNeg (((12 : Int32) * l4) + l1)))))) fun x2 =>
      F_X12_sumOf_L5 l1 I J K x2 (l4 + 1)
set_option maxRecDepth 100000 in
theorem s_X12_sumOf_L5 (b : Bool) (l1 : Int32) (I : HI) (J : HJ) : ∀ (K : Nat) (l2 : Int64) (l4 : Int32), S (pL (zs b, I, J)) mX12_sumOf (rmd 1 0 0) 0 0 (0, 0) 5 [(0, .ref 81), (1, .int l1), (2, .long l2), (4, .int l4)] [] (zs b, I, J) (F_X12_sumOf_L5 l1 I J K l2 l4) := by
  intro K
  induction K with
  | zero => intro l2 l4; exact S.none
  | succ K ih =>
    intro l2 l4
    rw [F_X12_sumOf_L5]
    refine S.iload 4 3 rfl rfl ?_
    refine S.aload_n 5 0 rfl rfl ?_
    refine S.getI 6 rfl fo_X12_424 rfl rfl ?_
    refine S.icmp_ge 44 7 rfl (by decide) (fun _ => ?_) (fun _ => ?_)
    · refine S.lload_n 27 2 rfl rfl ?_
      exact S.lret 28 rfl rfl (Nat.le_refl _) (Nat.le_refl _) rfl
    · refine S.lload_n 8 2 rfl rfl ?_
      refine S.aload_n 9 0 rfl rfl ?_
      refine S.getR 10 rfl fo_X12_110 rfl rfl rfl ?_
      refine S.iload 11 3 rfl rfl ?_
      refine S.iald 12 rfl rfl ?_
      refine S.i2l 13 rfl ?_
      refine S.aload_n 14 0 rfl rfl ?_
      refine S.getR 15 rfl fo_X12_107 rfl rfl rfl ?_
      refine S.bipush (12 : Int32) 16 rfl (by decide) ?_
      refine S.iload 17 3 rfl rfl ?_
      refine S.imul 18 rfl ?_
      refine S.iload_n 19 1 rfl rfl ?_
      refine S.iadd 20 rfl ?_
      refine S.lald 21 rfl rfl ?_
      refine S.lmul 22 rfl ?_
      refine S.ladd 23 rfl ?_
      refine S.nml (fun x2 => ?_)
      refine S.lstore_n [(2, .long x2), (0, .ref 81), (1, .int l1), (4, .int l4)] 24 rfl (by decide) rfl ?_
      refine S.iinc (l4 + 1) [(4, .int (l4 + 1)), (2, .long x2), (0, .ref 81), (1, .int l1)] 25 3 rfl rfl rfl (by decide) rfl ?_
      refine S.goto 5 26 rfl (by decide) ?_
      refine S.sub (lv' := [(0, .ref 81), (1, .int l1), (2, .long x2), (4, .int (l4 + 1))]) [2, 3, 1, 0] rfl ?_
      exact ih _ _
def F_X12_sumOf (l1 : Int32) (I : HI) (J : HJ) : Option Int64 :=
  F_X12_sumOf_L5 l1 I J bgf (0 : Int64) (0 : Int32)
set_option maxRecDepth 100000 in
theorem cm_X12_sumOf (b : Bool) (l1 : Int32) (I : HI) (J : HJ) : CM mX12_sumOf 1 0 0 [.ref 81, .int l1] (zs b, I, J) (pL (zs b, I, J)) (F_X12_sumOf l1 I J) := by
  refine S.of okX12_sumOf pn_X12 (Nat.le_of_ble_eq_true rfl) ?_
  refine S.sub (lv' := [(0, .ref 81), (1, .int l1)]) [0, 1] rfl ?_
  unfold F_X12_sumOf
  refine S.lconst (0 : Int64) 0 rfl (by decide) ?_
  refine S.lstore_n [(2, .long (0 : Int64)), (0, .ref 81), (1, .int l1)] 1 rfl (by decide) rfl ?_
  refine S.iconst (0 : Int32) 2 rfl (by decide) ?_
  refine S.istore [(4, .int (0 : Int32)), (2, .long (0 : Int64)), (0, .ref 81), (1, .int l1)] 3 rfl (by decide) rfl ?_
  refine S.sub (lv' := [(0, .ref 81), (1, .int l1), (2, .long (0 : Int64)), (4, .int (0 : Int32))]) [2, 3, 1, 0] rfl ?_
  refine s_X12_sumOf_L5 b _ _ _ bgf _ _
def F_X12_dimmest_L4 (I : HI) (J : HJ) : Nat → Int32 → Int32 → Option Int32
  | 0, _, _ => none
  | K+1, l1, l2 =>
    if (I m_self f_Model_members) ≤ l2 then
      some l1
    else
      cp (F_X12_sumOf l2 I J) fun r1 =>
      cp (F_X12_sumOf l1 I J) fun r2 =>
      lb (fun (y3 : Int32) =>
      F_X12_dimmest_L4 I J K y3 (l2 + 1)) fun j4 =>
      if 0 ≤ (lg_cmp r1 r2) then
        j4 l1
      else
        j4 l2
set_option maxRecDepth 100000 in
theorem s_X12_dimmest_L4 (b : Bool) (I : HI) (J : HJ) : ∀ (K : Nat) (l1 : Int32) (l2 : Int32), S (pI (zs b, I, J)) mX12_dimmest (rmd 2 0 0) 0 0 (0, 0) 4 [(0, .ref 81), (1, .int l1), (2, .int l2)] [] (zs b, I, J) (F_X12_dimmest_L4 I J K l1 l2) := by
  intro K
  induction K with
  | zero => intro l1 l2; exact S.none
  | succ K ih =>
    intro l1 l2
    rw [F_X12_dimmest_L4]
    refine S.iload_n 4 2 rfl rfl ?_
    refine S.aload_n 5 0 rfl rfl ?_
    refine S.getI 6 rfl fo_X12_409 rfl rfl ?_
    refine S.icmp_ge 34 7 rfl (by decide) (fun _ => ?_) (fun _ => ?_)
    · refine S.iload_n 20 1 rfl rfl ?_
      exact S.iret 21 rfl rfl rfl (Nat.le_refl _) (Nat.le_refl _) rfl
    · refine S.aload_n 8 0 rfl rfl ?_
      refine S.iload_n 9 2 rfl rfl ?_
      refine S.qVL (d := 1) (av := [.int l2]) (rs := [.int l2]) (b := 81) 10 rfl co_X12_447 rfl rfl rfl rfl rfl ⟨⟨Nat.le_of_ble_eq_true rfl, Nat.le_of_ble_eq_true rfl⟩, ⟨Nat.le_of_ble_eq_true rfl, Nat.le_of_ble_eq_true rfl⟩, Nat.le_of_ble_eq_true rfl⟩ (cm_X12_sumOf b l2 I J) (fun r1 => ?_)
      refine S.aload_n 11 0 rfl rfl ?_
      refine S.iload_n 12 1 rfl rfl ?_
      refine S.qVL (d := 1) (av := [.int l1]) (rs := [.int l1]) (b := 81) 13 rfl co_X12_447 rfl rfl rfl rfl rfl ⟨⟨Nat.le_of_ble_eq_true rfl, Nat.le_of_ble_eq_true rfl⟩, ⟨Nat.le_of_ble_eq_true rfl, Nat.le_of_ble_eq_true rfl⟩, Nat.le_of_ble_eq_true rfl⟩ (cm_X12_sumOf b l1 I J) (fun r2 => ?_)
      refine S.lcmp 14 rfl ?_
      refine S.jn (fun j => ∀ (y3 : Int32), S (pI (zs b, I, J)) mX12_dimmest (rmd 2 0 0) 0 0 (0, 0) 28 [(0, .ref 81), (1, .int y3), (2, .int l2)] [] (zs b, I, J) (j y3)) (fun y3 => ?_) (fun j4 hj4 => ?_)
      · refine S.iinc (l2 + 1) [(2, .int (l2 + 1)), (0, .ref 81), (1, .int y3)] 18 2 rfl rfl rfl (by decide) rfl ?_
        refine S.goto 4 19 rfl (by decide) ?_
        refine S.sub (lv' := [(0, .ref 81), (1, .int y3), (2, .int (l2 + 1))]) [1, 2, 0] rfl ?_
        exact ih _ _
      · refine S.if_ge 28 15 rfl (by decide) (fun _ => ?_) (fun _ => ?_)
        · exact hj4 _
        · refine S.iload_n 16 2 rfl rfl ?_
          refine S.istore_n [(1, .int l2), (0, .ref 81), (2, .int l2)] 17 rfl (by decide) rfl ?_
          refine S.sub (lv' := [(0, .ref 81), (1, .int l2), (2, .int l2)]) [1, 0, 2] rfl ?_
          exact hj4 _
def F_X12_dimmest  (I : HI) (J : HJ) : Option Int32 :=
  F_X12_dimmest_L4 I J bgf (0 : Int32) (1 : Int32)
set_option maxRecDepth 100000 in
theorem cm_X12_dimmest (b : Bool)  (I : HI) (J : HJ) : CM mX12_dimmest 2 0 0 [.ref 81] (zs b, I, J) (pI (zs b, I, J)) (F_X12_dimmest  I J) := by
  refine S.of okX12_dimmest pn_X12 (Nat.le_of_ble_eq_true rfl) ?_
  refine S.sub (lv' := [(0, .ref 81)]) [0] rfl ?_
  unfold F_X12_dimmest
  refine S.iconst (0 : Int32) 0 rfl (by decide) ?_
  refine S.istore_n [(1, .int (0 : Int32)), (0, .ref 81)] 1 rfl (by decide) rfl ?_
  refine S.iconst (1 : Int32) 2 rfl (by decide) ?_
  refine S.istore_n [(2, .int (1 : Int32)), (1, .int (0 : Int32)), (0, .ref 81)] 3 rfl (by decide) rfl ?_
  refine S.sub (lv' := [(0, .ref 81), (1, .int (0 : Int32)), (2, .int (1 : Int32))]) [2, 1, 0] rfl ?_
  refine s_X12_dimmest_L4 b _ _ bgf _ _
def F_X12_even_L119 (l2 : Int32) (l4 : Int32) (I : HI) (kx159 : HJ → Option (Int64 × HI × HJ)) : Nat → Int32 → HJ → Option (Int64 × HI × HJ)
  | 0, _, _ => none
  | K+1, l5, J =>
    if (I m_self f_Model_members) ≤ l5 then
      kx159 J
    else
      bx l5 12 <|
      bx (I m_member (Int32.toNatClampNeg l5)) 60 <|
      bx (((12 : Int32) * l4) + l5) 144 <|
      lb (uj J m_lightIn (Int32.toNatClampNeg (((12 : Int32) * l4) + l5)) (J m_light (Int32.toNatClampNeg (I m_member (Int32.toNatClampNeg l5))))) fun J18 =>
      F_X12_even_L119 l2 l4 I kx159 K (l5 + 1) J18
set_option maxRecDepth 100000 in
theorem s_X12_even_L119 (b : Bool) (l2 : Int32) (l4 : Int32) (I : HI) (kx159 : HJ → Option (Int64 × HI × HJ)) (hkx159 : ∀ (J1 : HJ), S (fL (zs b)) mX12_even (rmd 29 0 0) 0 0 (0, 0) 159 [(0, .ref 81), (2, .int l2), (4, .int l4)] [] (zs b, I, J1) (kx159 J1)) : ∀ (K : Nat) (l5 : Int32) (J : HJ), S (fL (zs b)) mX12_even (rmd 29 0 0) 0 0 (0, 0) 119 [(0, .ref 81), (2, .int l2), (4, .int l4), (5, .int l5)] [] (zs b, I, J) (F_X12_even_L119 l2 l4 I kx159 K l5 J) := by
  intro K
  induction K with
  | zero => intro l5 J; exact S.none
  | succ K ih =>
    intro l5 J
    rw [F_X12_even_L119]
    refine S.iload 66 3 rfl rfl ?_
    refine S.aload_n 67 0 rfl rfl ?_
    refine S.getI 68 rfl fo_X12_409 rfl rfl ?_
    refine S.icmp_ge 159 69 rfl (by decide) (fun _ => ?_) (fun _ => ?_)
    · refine S.sub (lv' := [(0, .ref 81), (2, .int l2), (4, .int l4)]) [0, 1, 2] rfl ?_
      exact hkx159 _
    · refine S.aload_n 70 0 rfl rfl ?_
      refine S.getR 71 rfl fo_X12_107 rfl rfl rfl ?_
      refine S.bipush (12 : Int32) 72 rfl (by decide) ?_
      refine S.iload 73 2 rfl rfl ?_
      refine S.imul 74 rfl ?_
      refine S.iload 75 3 rfl rfl ?_
      refine S.iadd 76 rfl ?_
      refine S.aload_n 77 0 rfl rfl ?_
      refine S.getR 78 rfl fo_X12_49 rfl rfl rfl ?_
      refine S.aload_n 79 0 rfl rfl ?_
      refine S.getR 80 rfl fo_X12_80 rfl rfl rfl ?_
      refine S.iload 81 3 rfl rfl ?_
      refine S.iald 82 rfl rfl ?_
      refine S.lald 83 rfl rfl ?_
      refine S.last 84 rfl rfl (fun J18 => ?_)
      refine S.iinc (l5 + 1) [(5, .int (l5 + 1)), (0, .ref 81), (2, .int l2), (4, .int l4)] 85 3 rfl rfl rfl (by decide) rfl ?_
      refine S.goto 119 86 rfl (by decide) ?_
      refine S.sub (lv' := [(0, .ref 81), (2, .int l2), (4, .int l4), (5, .int (l5 + 1))]) [1, 2, 3, 0] rfl ?_
      exact ih _ _
def F_X12_even_L81 (l2 : Int32) (kx173 : HI → HJ → Option (Int64 × HI × HJ)) : Nat → Int32 → HI → HJ → Option (Int64 × HI × HJ)
  | 0, _, _, _ => none
  | K+1, l4, I, J =>
    if (I m_self f_Model_turns) ≤ l4 then
      kx173 I J
    else
      bx l4 12 <|
      cp (F_X12_highOf (I m_turn (Int32.toNatClampNeg l4)) I J) fun r14 =>
      bx l4 12 <|
      cp (F_X12_lowOf (I m_turn (Int32.toNatClampNeg l4)) I J) fun r15 =>
      cl (F_X12_shine r14 r15 I J) fun _ I16 J17 =>
      F_X12_even_L119 l2 l4 I16 (fun (J19 : HJ) =>
      bx l4 12 <|
      lb (ui I16 m_slots (Int32.toNatClampNeg l4) (1 : Int32)) fun I20 =>
      F_X12_even_L81 l2 kx173 K (l4 + 1) I20 J19) bgf (0 : Int32) J17
set_option maxRecDepth 100000 in
theorem s_X12_even_L81 (b : Bool) (l2 : Int32) (kx173 : HI → HJ → Option (Int64 × HI × HJ)) (hkx173 : ∀ (I1 : HI) (J1 : HJ), S (fL (zs b)) mX12_even (rmd 29 0 0) 0 0 (0, 0) 173 [(0, .ref 81), (2, .int l2)] [] (zs b, I1, J1) (kx173 I1 J1)) : ∀ (K : Nat) (l4 : Int32) (I : HI) (J : HJ), S (fL (zs b)) mX12_even (rmd 29 0 0) 0 0 (0, 0) 81 [(0, .ref 81), (2, .int l2), (4, .int l4)] [] (zs b, I, J) (F_X12_even_L81 l2 kx173 K l4 I J) := by
  intro K
  induction K with
  | zero => intro l4 I J; exact S.none
  | succ K ih =>
    intro l4 I J
    rw [F_X12_even_L81]
    refine S.iload 46 2 rfl rfl ?_
    refine S.aload_n 47 0 rfl rfl ?_
    refine S.getI 48 rfl fo_X12_424 rfl rfl ?_
    refine S.icmp_ge 173 49 rfl (by decide) (fun _ => ?_) (fun _ => ?_)
    · refine S.sub (lv' := [(0, .ref 81), (2, .int l2)]) [0, 1] rfl ?_
      exact hkx173 _ _
    · refine S.aload_n 50 0 rfl rfl ?_
      refine S.aload_n 51 0 rfl rfl ?_
      refine S.aload_n 52 0 rfl rfl ?_
      refine S.getR 53 rfl fo_X12_98 rfl rfl rfl ?_
      refine S.iload 54 2 rfl rfl ?_
      refine S.iald 55 rfl rfl ?_
      refine S.qVI (d := 2) (av := [.int (I m_turn (Int32.toNatClampNeg l4))]) (rs := [.int (I m_turn (Int32.toNatClampNeg l4))]) (b := 81) 56 rfl co_X12_383 rfl rfl rfl rfl rfl ⟨⟨Nat.le_of_ble_eq_true rfl, Nat.le_of_ble_eq_true rfl⟩, ⟨Nat.le_of_ble_eq_true rfl, Nat.le_of_ble_eq_true rfl⟩, Nat.le_of_ble_eq_true rfl⟩ (cm_X12_highOf b (I m_turn (Int32.toNatClampNeg l4)) I J) (fun r14 => ?_)
      refine S.aload_n 57 0 rfl rfl ?_
      refine S.aload_n 58 0 rfl rfl ?_
      refine S.getR 59 rfl fo_X12_98 rfl rfl rfl ?_
      refine S.iload 60 2 rfl rfl ?_
      refine S.iald 61 rfl rfl ?_
      refine S.qVI (d := 2) (av := [.int (I m_turn (Int32.toNatClampNeg l4))]) (rs := [.int (I m_turn (Int32.toNatClampNeg l4))]) (b := 81) 62 rfl co_X12_386 rfl rfl rfl rfl rfl ⟨⟨Nat.le_of_ble_eq_true rfl, Nat.le_of_ble_eq_true rfl⟩, ⟨Nat.le_of_ble_eq_true rfl, Nat.le_of_ble_eq_true rfl⟩, Nat.le_of_ble_eq_true rfl⟩ (cm_X12_lowOf b (I m_turn (Int32.toNatClampNeg l4)) I J) (fun r15 => ?_)
      refine S.cVV (d := 23) (av := [.int r14, .int r15]) (rs := [.int r15, .int r14]) (b := 81) 63 rfl co_X12_337 rfl rfl rfl rfl rfl ⟨⟨Nat.le_of_ble_eq_true rfl, Nat.le_of_ble_eq_true rfl⟩, ⟨Nat.le_of_ble_eq_true rfl, Nat.le_of_ble_eq_true rfl⟩, Nat.le_of_ble_eq_true rfl⟩ (cm_X12_shine b r14 r15 I J) (fun _ I16 J17 => ?_)
      refine S.iconst (0 : Int32) 64 rfl (by decide) ?_
      refine S.istore [(5, .int (0 : Int32)), (0, .ref 81), (2, .int l2), (4, .int l4)] 65 rfl (by decide) rfl ?_
      refine S.sub (lv' := [(0, .ref 81), (2, .int l2), (4, .int l4), (5, .int (0 : Int32))]) [1, 2, 3, 0] rfl ?_
      refine s_X12_even_L119 b _ _ _ _ (fun J19 => ?_) bgf _ _
      refine S.aload_n 87 0 rfl rfl ?_
      refine S.getR 88 rfl fo_X12_110 rfl rfl rfl ?_
      refine S.iload 89 2 rfl rfl ?_
      refine S.iconst (1 : Int32) 90 rfl (by decide) ?_
      refine S.iast 91 rfl rfl (fun I20 => ?_)
      refine S.iinc (l4 + 1) [(4, .int (l4 + 1)), (0, .ref 81), (2, .int l2)] 92 2 rfl rfl rfl (by decide) rfl ?_
      refine S.goto 81 93 rfl (by decide) ?_
      refine S.sub (lv' := [(0, .ref 81), (2, .int l2), (4, .int (l4 + 1))]) [1, 2, 0] rfl ?_
      exact ih _ _ _
def F_X12_even_L198 (l4 : Int32) (l5 : Int32) (I : HI) (J : HJ) (kx247 : Int32 → Option (Int64 × HI × HJ)) : Nat → Int32 → Int32 → Option (Int64 × HI × HJ)
  | 0, _, _ => none
  | K+1, l6, l7 =>
    if (I m_self f_Model_turns) ≤ l7 then
      kx247 l6
    else
      bx (((12 : Int32) * l7) + l5) 144 <|
      bx (((12 : Int32) * l6) + l5) 144 <|
      lb (fun (y25 : Int32) =>
      F_X12_even_L198 l4 l5 I J kx247 K y25 (l7 + 1)) fun j26 =>
      if (lg_cmp (J m_lightIn (Int32.toNatClampNeg (((12 : Int32) * l7) + l5))) (J m_lightIn (Int32.toNatClampNeg (((12 : Int32) * l6) + l5)))) ≤ 0 then
        j26 l6
      else
        j26 l7
set_option maxRecDepth 100000 in
theorem s_X12_even_L198 (b : Bool) (l4 : Int32) (l5 : Int32) (I : HI) (J : HJ) (kx247 : Int32 → Option (Int64 × HI × HJ)) (hkx247 : ∀ (y6 : Int32), S (fL (zs b)) mX12_even (rmd 29 0 0) 0 0 (0, 0) 247 [(0, .ref 81), (4, .int l4), (6, .int y6)] [] (zs b, I, J) (kx247 y6)) : ∀ (K : Nat) (l6 : Int32) (l7 : Int32), S (fL (zs b)) mX12_even (rmd 29 0 0) 0 0 (0, 0) 198 [(0, .ref 81), (4, .int l4), (5, .int l5), (6, .int l6), (7, .int l7)] [] (zs b, I, J) (F_X12_even_L198 l4 l5 I J kx247 K l6 l7) := by
  intro K
  induction K with
  | zero => intro l6 l7; exact S.none
  | succ K ih =>
    intro l6 l7
    rw [F_X12_even_L198]
    refine S.iload 108 4 rfl rfl ?_
    refine S.aload_n 109 0 rfl rfl ?_
    refine S.getI 110 rfl fo_X12_424 rfl rfl ?_
    refine S.icmp_ge 247 111 rfl (by decide) (fun _ => ?_) (fun _ => ?_)
    · refine S.sub (lv' := [(0, .ref 81), (4, .int l4), (6, .int l6)]) [0, 1, 3] rfl ?_
      exact hkx247 _
    · refine S.aload_n 112 0 rfl rfl ?_
      refine S.getR 113 rfl fo_X12_107 rfl rfl rfl ?_
      refine S.bipush (12 : Int32) 114 rfl (by decide) ?_
      refine S.iload 115 4 rfl rfl ?_
      refine S.imul 116 rfl ?_
      refine S.iload 117 2 rfl rfl ?_
      refine S.iadd 118 rfl ?_
      refine S.lald 119 rfl rfl ?_
      refine S.aload_n 120 0 rfl rfl ?_
      refine S.getR 121 rfl fo_X12_107 rfl rfl rfl ?_
      refine S.bipush (12 : Int32) 122 rfl (by decide) ?_
      refine S.iload 123 3 rfl rfl ?_
      refine S.imul 124 rfl ?_
      refine S.iload 125 2 rfl rfl ?_
      refine S.iadd 126 rfl ?_
      refine S.lald 127 rfl rfl ?_
      refine S.lcmp 128 rfl ?_
      refine S.jn (fun j => ∀ (y25 : Int32), S (fL (zs b)) mX12_even (rmd 29 0 0) 0 0 (0, 0) 241 [(0, .ref 81), (4, .int l4), (5, .int l5), (6, .int y25), (7, .int l7)] [] (zs b, I, J) (j y25)) (fun y25 => ?_) (fun j26 hj26 => ?_)
      · refine S.iinc (l7 + 1) [(7, .int (l7 + 1)), (0, .ref 81), (4, .int l4), (5, .int l5), (6, .int y25)] 132 4 rfl rfl rfl (by decide) rfl ?_
        refine S.goto 198 133 rfl (by decide) ?_
        refine S.sub (lv' := [(0, .ref 81), (4, .int l4), (5, .int l5), (6, .int y25), (7, .int (l7 + 1))]) [1, 2, 3, 4, 0] rfl ?_
        exact ih _ _
      · refine S.if_le 241 129 rfl (by decide) (fun _ => ?_) (fun _ => ?_)
        · exact hj26 _
        · refine S.iload 130 4 rfl rfl ?_
          refine S.istore [(6, .int l7), (0, .ref 81), (4, .int l4), (5, .int l5), (7, .int l7)] 131 rfl (by decide) rfl ?_
          refine S.sub (lv' := [(0, .ref 81), (4, .int l4), (5, .int l5), (6, .int l7), (7, .int l7)]) [1, 2, 3, 0, 4] rfl ?_
          exact hj26 _
def F_X12_even_L181 (J : HJ) (kx264 : HI → Option (Int64 × HI × HJ)) : Nat → Int32 → HI → Option (Int64 × HI × HJ)
  | 0, _, _ => none
  | K+1, l4, I =>
    if l4 ≤ 0 then
      kx264 I
    else
      cp (F_X12_dimmest I J) fun r24 =>
      F_X12_even_L198 l4 r24 I J (fun (y27 : Int32) =>
      bx y27 12 <|
      bx y27 12 <|
      lb (ui I m_slots (Int32.toNatClampNeg y27) ((I m_slots (Int32.toNatClampNeg y27)) + (1 : Int32))) fun I28 =>
      F_X12_even_L181 J kx264 K (l4 + (-1)) I28) bgf (0 : Int32) (1 : Int32)
set_option maxRecDepth 100000 in
theorem s_X12_even_L181 (b : Bool) (J : HJ) (kx264 : HI → Option (Int64 × HI × HJ)) (hkx264 : ∀ (I1 : HI), S (fL (zs b)) mX12_even (rmd 29 0 0) 0 0 (0, 0) 264 [(0, .ref 81)] [] (zs b, I1, J) (kx264 I1)) : ∀ (K : Nat) (l4 : Int32) (I : HI), S (fL (zs b)) mX12_even (rmd 29 0 0) 0 0 (0, 0) 181 [(0, .ref 81), (4, .int l4)] [] (zs b, I, J) (F_X12_even_L181 J kx264 K l4 I) := by
  intro K
  induction K with
  | zero => intro l4 I; exact S.none
  | succ K ih =>
    intro l4 I
    rw [F_X12_even_L181]
    refine S.iload 99 1 rfl rfl ?_
    refine S.if_le 264 100 rfl (by decide) (fun _ => ?_) (fun _ => ?_)
    · refine S.sub (lv' := [(0, .ref 81)]) [0] rfl ?_
      exact hkx264 _
    · refine S.aload_n 101 0 rfl rfl ?_
      refine S.qVI (d := 2) (av := []) (rs := []) (b := 81) 102 rfl co_X12_453 rfl rfl rfl rfl rfl ⟨⟨Nat.le_of_ble_eq_true rfl, Nat.le_of_ble_eq_true rfl⟩, ⟨Nat.le_of_ble_eq_true rfl, Nat.le_of_ble_eq_true rfl⟩, Nat.le_of_ble_eq_true rfl⟩ (cm_X12_dimmest b I J) (fun r24 => ?_)
      refine S.istore [(5, .int r24), (0, .ref 81), (4, .int l4)] 103 rfl (by decide) rfl ?_
      refine S.iconst (0 : Int32) 104 rfl (by decide) ?_
      refine S.istore [(6, .int (0 : Int32)), (5, .int r24), (0, .ref 81), (4, .int l4)] 105 rfl (by decide) rfl ?_
      refine S.iconst (1 : Int32) 106 rfl (by decide) ?_
      refine S.istore [(7, .int (1 : Int32)), (6, .int (0 : Int32)), (5, .int r24), (0, .ref 81), (4, .int l4)] 107 rfl (by decide) rfl ?_
      refine S.sub (lv' := [(0, .ref 81), (4, .int l4), (5, .int r24), (6, .int (0 : Int32)), (7, .int (1 : Int32))]) [3, 4, 2, 1, 0] rfl ?_
      refine s_X12_even_L198 b _ _ _ _ _ (fun y27 => ?_) bgf _ _
      refine S.aload_n 134 0 rfl rfl ?_
      refine S.getR 135 rfl fo_X12_110 rfl rfl rfl ?_
      refine S.iload 136 2 rfl rfl ?_
      refine S.dup2_11 137 rfl rfl rfl ?_
      refine S.iald 138 rfl rfl ?_
      refine S.iconst (1 : Int32) 139 rfl (by decide) ?_
      refine S.iadd 140 rfl ?_
      refine S.iast 141 rfl rfl (fun I28 => ?_)
      refine S.iinc (l4 + (-1)) [(4, .int (l4 + (-1))), (0, .ref 81), (6, .int y27)] 142 1 rfl rfl rfl (by decide) rfl ?_
      refine S.goto 181 143 rfl (by decide) ?_
      refine S.sub (lv' := [(0, .ref 81), (4, .int (l4 + (-1)))]) [1, 0] rfl ?_
      exact ih _ _
def F_X12_even_L267 (kx294 : HI → HJ → Option (Int64 × HI × HJ)) : Nat → Int32 → HI → HJ → Option (Int64 × HI × HJ)
  | 0, _, _, _ => none
  | K+1, l4, I, J =>
    if (I m_self f_Model_turns) ≤ l4 then
      kx294 I J
    else
      bx l4 12 <|
      cl (F_X12_tell (Int32.toInt64 (I m_slots (Int32.toNatClampNeg l4))) I J) fun _ I30 J31 =>
      F_X12_even_L267 kx294 K (l4 + 1) I30 J31
set_option maxRecDepth 100000 in
theorem s_X12_even_L267 (b : Bool) (kx294 : HI → HJ → Option (Int64 × HI × HJ)) (hkx294 : ∀ (I1 : HI) (J1 : HJ), S (fL (zs b)) mX12_even (rmd 29 0 0) 0 0 (0, 0) 294 [(0, .ref 81)] [] (zs b, I1, J1) (kx294 I1 J1)) : ∀ (K : Nat) (l4 : Int32) (I : HI) (J : HJ), S (fL (zs b)) mX12_even (rmd 29 0 0) 0 0 (0, 0) 267 [(0, .ref 81), (4, .int l4)] [] (zs b, I, J) (F_X12_even_L267 kx294 K l4 I J) := by
  intro K
  induction K with
  | zero => intro l4 I J; exact S.none
  | succ K ih =>
    intro l4 I J
    rw [F_X12_even_L267]
    refine S.iload 146 1 rfl rfl ?_
    refine S.aload_n 147 0 rfl rfl ?_
    refine S.getI 148 rfl fo_X12_424 rfl rfl ?_
    refine S.icmp_ge 294 149 rfl (by decide) (fun _ => ?_) (fun _ => ?_)
    · refine S.sub (lv' := [(0, .ref 81)]) [0] rfl ?_
      exact hkx294 _ _
    · refine S.aload_n 150 0 rfl rfl ?_
      refine S.aload_n 151 0 rfl rfl ?_
      refine S.getR 152 rfl fo_X12_110 rfl rfl rfl ?_
      refine S.iload 153 1 rfl rfl ?_
      refine S.iald 154 rfl rfl ?_
      refine S.i2l 155 rfl ?_
      refine S.cVV (d := 1) (av := [.long (Int32.toInt64 (I m_slots (Int32.toNatClampNeg l4)))]) (rs := [.long (Int32.toInt64 (I m_slots (Int32.toNatClampNeg l4)))]) (b := 81) 156 rfl co_X12_371 rfl rfl rfl rfl rfl ⟨⟨Nat.le_of_ble_eq_true rfl, Nat.le_of_ble_eq_true rfl⟩, ⟨Nat.le_of_ble_eq_true rfl, Nat.le_of_ble_eq_true rfl⟩, Nat.le_of_ble_eq_true rfl⟩ (cm_X12_tell b (Int32.toInt64 (I m_slots (Int32.toNatClampNeg l4))) I J) (fun _ I30 J31 => ?_)
      refine S.iinc (l4 + 1) [(4, .int (l4 + 1)), (0, .ref 81)] 157 1 rfl rfl rfl (by decide) rfl ?_
      refine S.goto 267 158 rfl (by decide) ?_
      refine S.sub (lv' := [(0, .ref 81), (4, .int (l4 + 1))]) [1, 0] rfl ?_
      exact ih _ _ _
def F_X12_even (l1 : Int32) (l2 : Int32) (I : HI) (J : HJ) : Option (Int64 × HI × HJ) :=
  lb (ui I m_self f_Model_thrown (0 : Int32)) fun I7 =>
  cp (F_X12_refusal l1 I7 J) fun r8 =>
  if r8 = (-1 : Int32) then
    some ((-1 : Int64), I7, J)
  else
    cp (F_X12_in (Int32.toInt64 l2) (1 : Int64) (200 : Int64)) fun r9 =>
    if r9 = 0 then
      some ((-1 : Int64), I7, J)
    else
      if 0 ≤ r8 then
        bx l1 4 <|
        cl (F_X12_findParted (J m_pictures (Int32.toNatClampNeg l1)) I7 J) fun r10 I11 J12 =>
        if r10 = 0 then
          some ((-2 : Int64), I11, J12)
        else
          if (I11 m_self f_Model_turns) ≤ l2 then
            lb (ui I11 m_self f_Model_rowMany (0 : Int32)) fun I13 =>
            if (I13 m_self f_Model_members) = 0 then
              some ((0 : Int64), I13, J12)
            else
              F_X12_even_L81 l2 (fun (I21 : HI) (J22 : HJ) =>
              lb ((l2 - (I21 m_self f_Model_turns))) fun x23 =>
              F_X12_even_L181 J22 (fun (I29 : HI) =>
              F_X12_even_L267 (fun (I32 : HI) (J33 : HJ) =>
              cp (F_X12_dimmest I32 J33) fun r34 =>
              cp (F_X12_sumOf r34 I32 J33) fun r35 =>
              some (r35, I32, J33)) bgf (0 : Int32) I29 J22) bgf x23 I21) bgf (0 : Int32) I13 J12
          else
            some ((-2 : Int64), I11, J12)
      else
        some ((Int32.toInt64 r8), I7, J)
set_option maxRecDepth 100000 in
theorem cm_X12_even (b : Bool) (l1 : Int32) (l2 : Int32) (I : HI) (J : HJ) : CM mX12_even 29 0 0 [.ref 81, .int l1, .int l2] (zs b, I, J) (fL (zs b)) (F_X12_even l1 l2 I J) := by
  refine S.of okX12_even pn_X12 (Nat.le_of_ble_eq_true rfl) ?_
  refine S.sub (lv' := [(0, .ref 81), (1, .int l1), (2, .int l2)]) [0, 1, 2] rfl ?_
  unfold F_X12_even
  refine S.aload_n 0 0 rfl rfl ?_
  refine S.iconst (0 : Int32) 1 rfl (by decide) ?_
  refine S.putI 2 rfl fo_X12_159 rfl rfl rfl rfl (fun _ hq => by cases hq; exact Or.inl rfl) (fun I7 => ?_)
  refine S.aload_n 3 0 rfl rfl ?_
  refine S.iload_n 4 1 rfl rfl ?_
  refine S.qVI (d := 2) (av := [.int l1]) (rs := [.int l1]) (b := 81) 5 rfl co_X12_427 rfl rfl rfl rfl rfl ⟨⟨Nat.le_of_ble_eq_true rfl, Nat.le_of_ble_eq_true rfl⟩, ⟨Nat.le_of_ble_eq_true rfl, Nat.le_of_ble_eq_true rfl⟩, Nat.le_of_ble_eq_true rfl⟩ (cm_X12_refusal b l1 I7 J) (fun r8 => ?_)
  refine S.istore_n [(3, .int r8), (0, .ref 81), (1, .int l1), (2, .int l2)] 6 rfl (by decide) rfl ?_
  refine S.iload_n 7 0 rfl rfl ?_
  refine S.iconst (-1 : Int32) 8 rfl (by decide) ?_
  refine S.icmp_eq 28 9 rfl (by decide) (fun _ => ?_) (fun _ => ?_)
  · refine S.ldc2 (-1 : Int64) 16 rfl ko_X12_366 ?_
    exact S.lret 17 rfl rfl (Nat.le_refl _) (Nat.le_refl _) rfl
  · refine S.iload_n 10 3 rfl rfl ?_
    refine S.i2l 11 rfl ?_
    refine S.lconst (1 : Int64) 12 rfl (by decide) ?_
    refine S.ldc2 (200 : Int64) 13 rfl ko_X12_451 ?_
    refine S.qSI (d := 1) (av := [.long (Int32.toInt64 l2), .long (1 : Int64), .long (200 : Int64)]) (rs := [.long (200 : Int64), .long (1 : Int64), .long (Int32.toInt64 l2)]) 14 rfl co_X12_165 rfl rfl ⟨⟨Nat.le_of_ble_eq_true rfl, Nat.le_of_ble_eq_true rfl⟩, ⟨Nat.le_of_ble_eq_true rfl, Nat.le_of_ble_eq_true rfl⟩, Nat.le_of_ble_eq_true rfl⟩ (cm_X12_in (zs b, I7, J) (Int32.toInt64 l2) (1 : Int64) (200 : Int64)) (fun r9 => ?_)
    refine S.if_ne 32 15 rfl (by decide) (fun _ => ?_) (fun _ => ?_)
    · refine S.iload_n 18 0 rfl rfl ?_
      refine S.if_ge 39 19 rfl (by decide) (fun _ => ?_) (fun _ => ?_)
      · refine S.aload_n 23 1 rfl rfl ?_
        refine S.aload_n 24 1 rfl rfl ?_
        refine S.getR 25 rfl fo_X12_77 rfl rfl rfl ?_
        refine S.iload_n 26 2 rfl rfl ?_
        refine S.lald 27 rfl rfl ?_
        refine S.cVI (d := 28) (av := [.long (J m_pictures (Int32.toNatClampNeg l1))]) (rs := [.long (J m_pictures (Int32.toNatClampNeg l1))]) (b := 81) 28 rfl co_X12_430 rfl rfl rfl rfl rfl ⟨⟨Nat.le_of_ble_eq_true rfl, Nat.le_of_ble_eq_true rfl⟩, ⟨Nat.le_of_ble_eq_true rfl, Nat.le_of_ble_eq_true rfl⟩, Nat.le_of_ble_eq_true rfl⟩ (cm_X12_findParted b (J m_pictures (Int32.toNatClampNeg l1)) I7 J) (fun r10 I11 J12 => ?_)
        refine S.if_eq 60 29 rfl (by decide) (fun _ => ?_) (fun _ => ?_)
        · refine S.ldc2 (-2 : Int64) 34 rfl ko_X12_375 ?_
          exact S.lret 35 rfl rfl (Nat.le_refl _) (Nat.le_refl _) rfl
        · refine S.iload_n 30 3 rfl rfl ?_
          refine S.aload_n 31 1 rfl rfl ?_
          refine S.getI 32 rfl fo_X12_424 rfl rfl ?_
          refine S.icmp_ge 64 33 rfl (by decide) (fun _ => ?_) (fun _ => ?_)
          · refine S.aload_n 36 1 rfl rfl ?_
            refine S.iconst (0 : Int32) 37 rfl (by decide) ?_
            refine S.putI 38 rfl fo_X12_162 rfl rfl rfl rfl (fun _ hq => by cases hq; exact Or.inl rfl) (fun I13 => ?_)
            refine S.aload_n 39 1 rfl rfl ?_
            refine S.getI 40 rfl fo_X12_409 rfl rfl ?_
            refine S.if_ne 78 41 rfl (by decide) (fun _ => ?_) (fun _ => ?_)
            · refine S.iconst (0 : Int32) 44 rfl (by decide) ?_
              refine S.istore [(4, .int (0 : Int32)), (3, .int r8), (0, .ref 81), (1, .int l1), (2, .int l2)] 45 rfl (by decide) rfl ?_
              refine S.sub (lv' := [(0, .ref 81), (2, .int l2), (4, .int (0 : Int32))]) [2, 4, 0] rfl ?_
              refine s_X12_even_L81 b _ _ (fun I21 J22 => ?_) bgf _ _ _
              refine S.iload_n 94 1 rfl rfl ?_
              refine S.aload_n 95 0 rfl rfl ?_
              refine S.getI 96 rfl fo_X12_424 rfl rfl ?_
              refine S.isub 97 rfl ?_
              refine S.nmi (fun x23 => ?_)
              refine S.istore [(4, .int x23), (0, .ref 81), (2, .int l2)] 98 rfl (by decide) rfl ?_
              refine S.sub (lv' := [(0, .ref 81), (4, .int x23)]) [1, 0] rfl ?_
              refine s_X12_even_L181 b _ _ (fun I29 => ?_) bgf _ _
              refine S.iconst (0 : Int32) 144 rfl (by decide) ?_
              refine S.istore [(4, .int (0 : Int32)), (0, .ref 81)] 145 rfl (by decide) rfl ?_
              refine S.sub (lv' := [(0, .ref 81), (4, .int (0 : Int32))]) [1, 0] rfl ?_
              refine s_X12_even_L267 b _ (fun I32 J33 => ?_) bgf _ _ _
              refine S.aload_n 159 0 rfl rfl ?_
              refine S.aload_n 160 0 rfl rfl ?_
              refine S.qVI (d := 2) (av := []) (rs := []) (b := 81) 161 rfl co_X12_453 rfl rfl rfl rfl rfl ⟨⟨Nat.le_of_ble_eq_true rfl, Nat.le_of_ble_eq_true rfl⟩, ⟨Nat.le_of_ble_eq_true rfl, Nat.le_of_ble_eq_true rfl⟩, Nat.le_of_ble_eq_true rfl⟩ (cm_X12_dimmest b I32 J33) (fun r34 => ?_)
              refine S.qVL (d := 1) (av := [.int r34]) (rs := [.int r34]) (b := 81) 162 rfl co_X12_447 rfl rfl rfl rfl rfl ⟨⟨Nat.le_of_ble_eq_true rfl, Nat.le_of_ble_eq_true rfl⟩, ⟨Nat.le_of_ble_eq_true rfl, Nat.le_of_ble_eq_true rfl⟩, Nat.le_of_ble_eq_true rfl⟩ (cm_X12_sumOf b r34 I32 J33) (fun r35 => ?_)
              exact S.lret 163 rfl rfl (Nat.le_refl _) (Nat.le_refl _) rfl
            · refine S.lconst (0 : Int64) 42 rfl (by decide) ?_
              exact S.lret 43 rfl rfl (Nat.le_refl _) (Nat.le_refl _) rfl
          · refine S.ldc2 (-2 : Int64) 34 rfl ko_X12_375 ?_
            exact S.lret 35 rfl rfl (Nat.le_refl _) (Nat.le_refl _) rfl
      · refine S.iload_n 20 0 rfl rfl ?_
        refine S.i2l 21 rfl ?_
        exact S.lret 22 rfl rfl (Nat.le_refl _) (Nat.le_refl _) rfl
    · refine S.ldc2 (-1 : Int64) 16 rfl ko_X12_366 ?_
      exact S.lret 17 rfl rfl (Nat.le_refl _) (Nat.le_refl _) rfl
def F_X12_better_L97 (l1 : Int32) (l2 : Int32) (l6 : Int32) (kx181 : Int32 → Int32 → Int32 → HI → HJ → Option (Int32 × HI × HJ)) : Nat → Int32 → Int32 → Int32 → Int32 → HI → HJ → Option (Int32 × HI × HJ)
  | 0, _, _, _, _, _, _ => none
  | K+1, l3, l4, l5, l7, I, J =>
    if (I m_self f_Model_lamps) ≤ l7 then
      kx181 l3 l4 l5 I J
    else
      cl (F_X12_change l6 l7 I J) fun _ I14 J15 =>
      bx l1 4 <|
      cl (F_X12_findParted (J15 m_pictures (Int32.toNatClampNeg l1)) I14 J15) fun r16 I17 J18 =>
      lb (fun (y19 : Int32) =>
      cl (F_X12_change l6 l7 I17 J18) fun _ I21 J22 =>
      lb (fun (y23 : Int32) (y24 : Int32) (y25 : Int32) =>
      F_X12_better_L97 l1 l2 l6 kx181 K y23 y24 y25 (l7 + 1) I21 J22) fun j26 =>
      if y19 = 0 then
        j26 l3 l4 l5
      else
        lb ((I21 m_self f_Model_turns)) fun x27 =>
        j26 x27 l6 l7) fun j20 =>
      lb (
      j20 (0 : Int32)) fun j28 =>
      if r16 = 0 then
        j28
      else
        lb (
        j20 (1 : Int32)) fun j29 =>
        if l3 < 0 then
          j29
        else
          if l3 ≤ (I17 m_self f_Model_turns) then
            j28
          else
            j29
set_option maxRecDepth 100000 in
theorem s_X12_better_L97 (b : Bool) (l1 : Int32) (l2 : Int32) (l6 : Int32) (kx181 : Int32 → Int32 → Int32 → HI → HJ → Option (Int32 × HI × HJ)) (hkx181 : ∀ (y3 : Int32) (y4 : Int32) (y5 : Int32) (I1 : HI) (J1 : HJ), S (fI (zs b)) mX12_better (rmd 29 0 0) 0 0 (0, 0) 181 [(0, .ref 81), (1, .int l1), (2, .int l2), (3, .int y3), (4, .int y4), (5, .int y5), (6, .int l6)] [] (zs b, I1, J1) (kx181 y3 y4 y5 I1 J1)) : ∀ (K : Nat) (l3 : Int32) (l4 : Int32) (l5 : Int32) (l7 : Int32) (I : HI) (J : HJ), S (fI (zs b)) mX12_better (rmd 29 0 0) 0 0 (0, 0) 97 [(0, .ref 81), (1, .int l1), (2, .int l2), (3, .int l3), (4, .int l4), (5, .int l5), (6, .int l6), (7, .int l7)] [] (zs b, I, J) (F_X12_better_L97 l1 l2 l6 kx181 K l3 l4 l5 l7 I J) := by
  intro K
  induction K with
  | zero => intro l3 l4 l5 l7 I J; exact S.none
  | succ K ih =>
    intro l3 l4 l5 l7 I J
    rw [F_X12_better_L97]
    refine S.iload 53 7 rfl rfl ?_
    refine S.aload_n 54 0 rfl rfl ?_
    refine S.getI 55 rfl fo_X12_169 rfl rfl ?_
    refine S.icmp_ge 181 56 rfl (by decide) (fun _ => ?_) (fun _ => ?_)
    · refine S.sub (lv' := [(0, .ref 81), (1, .int l1), (2, .int l2), (3, .int l3), (4, .int l4), (5, .int l5), (6, .int l6)]) [0, 1, 2, 3, 4, 5, 6] rfl ?_
      exact hkx181 _ _ _ _ _
    · refine S.aload_n 57 0 rfl rfl ?_
      refine S.iload 58 6 rfl rfl ?_
      refine S.iload 59 7 rfl rfl ?_
      refine S.cVV (d := 1) (av := [.int l6, .int l7]) (rs := [.int l7, .int l6]) (b := 81) 60 rfl co_X12_253 rfl rfl rfl rfl rfl ⟨⟨Nat.le_of_ble_eq_true rfl, Nat.le_of_ble_eq_true rfl⟩, ⟨Nat.le_of_ble_eq_true rfl, Nat.le_of_ble_eq_true rfl⟩, Nat.le_of_ble_eq_true rfl⟩ (cm_X12_change b l6 l7 I J) (fun _ I14 J15 => ?_)
      refine S.aload_n 61 0 rfl rfl ?_
      refine S.aload_n 62 0 rfl rfl ?_
      refine S.getR 63 rfl fo_X12_77 rfl rfl rfl ?_
      refine S.iload_n 64 1 rfl rfl ?_
      refine S.lald 65 rfl rfl ?_
      refine S.cVI (d := 28) (av := [.long (J15 m_pictures (Int32.toNatClampNeg l1))]) (rs := [.long (J15 m_pictures (Int32.toNatClampNeg l1))]) (b := 81) 66 rfl co_X12_430 rfl rfl rfl rfl rfl ⟨⟨Nat.le_of_ble_eq_true rfl, Nat.le_of_ble_eq_true rfl⟩, ⟨Nat.le_of_ble_eq_true rfl, Nat.le_of_ble_eq_true rfl⟩, Nat.le_of_ble_eq_true rfl⟩ (cm_X12_findParted b (J15 m_pictures (Int32.toNatClampNeg l1)) I14 J15) (fun r16 I17 J18 => ?_)
      refine S.jn (fun j => ∀ (y19 : Int32), S (fI (zs b)) mX12_better (rmd 29 0 0) 0 0 (0, 0) 144 [(0, .ref 81), (1, .int l1), (2, .int l2), (3, .int l3), (4, .int l4), (5, .int l5), (6, .int l6), (7, .int l7)] [.int y19] (zs b, I17, J18) (j y19)) (fun y19 => ?_) (fun j20 hj20 => ?_)
      · refine S.istore [(8, .int y19), (0, .ref 81), (1, .int l1), (2, .int l2), (3, .int l3), (4, .int l4), (5, .int l5), (6, .int l6), (7, .int l7)] 77 rfl (by decide) rfl ?_
        refine S.aload_n 78 1 rfl rfl ?_
        refine S.iload 79 7 rfl rfl ?_
        refine S.iload 80 8 rfl rfl ?_
        refine S.cVV (d := 1) (av := [.int l6, .int l7]) (rs := [.int l7, .int l6]) (b := 81) 81 rfl co_X12_253 rfl rfl rfl rfl rfl ⟨⟨Nat.le_of_ble_eq_true rfl, Nat.le_of_ble_eq_true rfl⟩, ⟨Nat.le_of_ble_eq_true rfl, Nat.le_of_ble_eq_true rfl⟩, Nat.le_of_ble_eq_true rfl⟩ (cm_X12_change b l6 l7 I17 J18) (fun _ I21 J22 => ?_)
        refine S.iload 82 0 rfl rfl ?_
        refine S.jn (fun j => ∀ (y23 : Int32) (y24 : Int32) (y25 : Int32), S (fI (zs b)) mX12_better (rmd 29 0 0) 0 0 (0, 0) 175 [(0, .ref 81), (1, .int l1), (2, .int l2), (3, .int y23), (4, .int y24), (5, .int y25), (6, .int l6), (7, .int l7)] [] (zs b, I21, J22) (j y23 y24 y25)) (fun y23 y24 y25 => ?_) (fun j26 hj26 => ?_)
        · refine S.iinc (l7 + 1) [(7, .int (l7 + 1)), (0, .ref 81), (1, .int l1), (2, .int l2), (3, .int y23), (4, .int y24), (5, .int y25), (6, .int l6)] 92 7 rfl rfl rfl (by decide) rfl ?_
          refine S.goto 97 93 rfl (by decide) ?_
          refine S.sub (lv' := [(0, .ref 81), (1, .int l1), (2, .int l2), (3, .int y23), (4, .int y24), (5, .int y25), (6, .int l6), (7, .int (l7 + 1))]) [1, 2, 3, 4, 5, 6, 7, 0] rfl ?_
          exact ih _ _ _ _ _ _
        · refine S.if_ne 162 83 rfl (by decide) (fun _ => ?_) (fun _ => ?_)
          · refine S.aload_n 85 1 rfl rfl ?_
            refine S.getI 86 rfl fo_X12_424 rfl rfl ?_
            refine S.nmi (fun x27 => ?_)
            refine S.istore_n [(3, .int x27), (8, .int y19), (0, .ref 81), (1, .int l1), (2, .int l2), (4, .int l4), (5, .int l5), (6, .int l6), (7, .int l7)] 87 rfl (by decide) rfl ?_
            refine S.iload 88 7 rfl rfl ?_
            refine S.istore [(4, .int l6), (3, .int x27), (8, .int y19), (0, .ref 81), (1, .int l1), (2, .int l2), (5, .int l5), (6, .int l6), (7, .int l7)] 89 rfl (by decide) rfl ?_
            refine S.iload 90 8 rfl rfl ?_
            refine S.istore [(5, .int l7), (4, .int l6), (3, .int x27), (8, .int y19), (0, .ref 81), (1, .int l1), (2, .int l2), (6, .int l6), (7, .int l7)] 91 rfl (by decide) rfl ?_
            refine S.sub (lv' := [(0, .ref 81), (1, .int l1), (2, .int l2), (3, .int x27), (4, .int l6), (5, .int l7), (6, .int l6), (7, .int l7)]) [4, 5, 6, 2, 1, 0, 7, 8] rfl ?_
            exact hj26 _ _ _
          · refine S.goto 175 84 rfl (by decide) ?_
            refine S.sub (lv' := [(0, .ref 81), (1, .int l1), (2, .int l2), (3, .int l3), (4, .int l4), (5, .int l5), (6, .int l6), (7, .int l7)]) [1, 2, 3, 4, 5, 6, 7, 8] rfl ?_
            exact hj26 _ _ _
      · refine S.jn (fun j => S (fI (zs b)) mX12_better (rmd 29 0 0) 0 0 (0, 0) 143 [(0, .ref 81), (1, .int l1), (2, .int l2), (3, .int l3), (4, .int l4), (5, .int l5), (6, .int l6), (7, .int l7)] [] (zs b, I17, J18) (j)) ?_ (fun j28 hj28 => ?_)
        · refine S.iconst (0 : Int32) 76 rfl (by decide) ?_
          exact hj20 _
        · refine S.if_eq 143 67 rfl (by decide) (fun _ => ?_) (fun _ => ?_)
          · exact hj28
          · refine S.iload_n 68 3 rfl rfl ?_
            refine S.jn (fun j => S (fI (zs b)) mX12_better (rmd 29 0 0) 0 0 (0, 0) 139 [(0, .ref 81), (1, .int l1), (2, .int l2), (3, .int l3), (4, .int l4), (5, .int l5), (6, .int l6), (7, .int l7)] [] (zs b, I17, J18) (j)) ?_ (fun j29 hj29 => ?_)
            · refine S.iconst (1 : Int32) 74 rfl (by decide) ?_
              refine S.goto 144 75 rfl (by decide) ?_
              exact hj20 _
            · refine S.if_lt 139 69 rfl (by decide) (fun _ => ?_) (fun _ => ?_)
              · exact hj29
              · refine S.aload_n 70 0 rfl rfl ?_
                refine S.getI 71 rfl fo_X12_424 rfl rfl ?_
                refine S.iload_n 72 3 rfl rfl ?_
                refine S.icmp_ge 143 73 rfl (by decide) (fun _ => ?_) (fun _ => ?_)
                · exact hj28
                · exact hj29
def F_X12_better_L82 (l1 : Int32) (l2 : Int32) (kx187 : Int32 → Int32 → Int32 → HI → HJ → Option (Int32 × HI × HJ)) : Nat → Int32 → Int32 → Int32 → Int32 → HI → HJ → Option (Int32 × HI × HJ)
  | 0, _, _, _, _, _, _ => none
  | K+1, l3, l4, l5, l6, I, J =>
    if (I m_self f_Model_lamps) ≤ l6 then
      kx187 l3 l4 l5 I J
    else
      lb ((l6 + (1 : Int32))) fun x13 =>
      F_X12_better_L97 l1 l2 l6 (fun (y30 : Int32) (y31 : Int32) (y32 : Int32) (I33 : HI) (J34 : HJ) =>
      F_X12_better_L82 l1 l2 kx187 K y30 y31 y32 (l6 + 1) I33 J34) bgf l3 l4 l5 x13 I J
set_option maxRecDepth 100000 in
theorem s_X12_better_L82 (b : Bool) (l1 : Int32) (l2 : Int32) (kx187 : Int32 → Int32 → Int32 → HI → HJ → Option (Int32 × HI × HJ)) (hkx187 : ∀ (y3 : Int32) (y4 : Int32) (y5 : Int32) (I1 : HI) (J1 : HJ), S (fI (zs b)) mX12_better (rmd 29 0 0) 0 0 (0, 0) 187 [(0, .ref 81), (2, .int l2), (3, .int y3), (4, .int y4), (5, .int y5)] [] (zs b, I1, J1) (kx187 y3 y4 y5 I1 J1)) : ∀ (K : Nat) (l3 : Int32) (l4 : Int32) (l5 : Int32) (l6 : Int32) (I : HI) (J : HJ), S (fI (zs b)) mX12_better (rmd 29 0 0) 0 0 (0, 0) 82 [(0, .ref 81), (1, .int l1), (2, .int l2), (3, .int l3), (4, .int l4), (5, .int l5), (6, .int l6)] [] (zs b, I, J) (F_X12_better_L82 l1 l2 kx187 K l3 l4 l5 l6 I J) := by
  intro K
  induction K with
  | zero => intro l3 l4 l5 l6 I J; exact S.none
  | succ K ih =>
    intro l3 l4 l5 l6 I J
    rw [F_X12_better_L82]
    refine S.iload 45 6 rfl rfl ?_
    refine S.aload_n 46 0 rfl rfl ?_
    refine S.getI 47 rfl fo_X12_169 rfl rfl ?_
    refine S.icmp_ge 187 48 rfl (by decide) (fun _ => ?_) (fun _ => ?_)
    · refine S.sub (lv' := [(0, .ref 81), (2, .int l2), (3, .int l3), (4, .int l4), (5, .int l5)]) [0, 2, 3, 4, 5] rfl ?_
      exact hkx187 _ _ _ _ _
    · refine S.iload 49 6 rfl rfl ?_
      refine S.iconst (1 : Int32) 50 rfl (by decide) ?_
      refine S.iadd 51 rfl ?_
      refine S.nmi (fun x13 => ?_)
      refine S.istore [(7, .int x13), (0, .ref 81), (1, .int l1), (2, .int l2), (3, .int l3), (4, .int l4), (5, .int l5), (6, .int l6)] 52 rfl (by decide) rfl ?_
      refine S.sub (lv' := [(0, .ref 81), (1, .int l1), (2, .int l2), (3, .int l3), (4, .int l4), (5, .int l5), (6, .int l6), (7, .int x13)]) [1, 2, 3, 4, 5, 6, 7, 0] rfl ?_
      refine s_X12_better_L97 b _ _ _ _ (fun y30 y31 y32 I33 J34 => ?_) bgf _ _ _ _ _ _
      refine S.iinc (l6 + 1) [(6, .int (l6 + 1)), (0, .ref 81), (1, .int l1), (2, .int l2), (3, .int y30), (4, .int y31), (5, .int y32)] 94 6 rfl rfl rfl (by decide) rfl ?_
      refine S.goto 82 95 rfl (by decide) ?_
      refine S.sub (lv' := [(0, .ref 81), (1, .int l1), (2, .int l2), (3, .int y30), (4, .int y31), (5, .int y32), (6, .int (l6 + 1))]) [1, 2, 3, 4, 5, 6, 0] rfl ?_
      exact ih _ _ _ _ _ _
def F_X12_better (l1 : Int32) (I : HI) (J : HJ) : Option (Int32 × HI × HJ) :=
  lb (ui I m_self f_Model_thrown (0 : Int32)) fun I6 =>
  cp (F_X12_in (Int32.toInt64 l1) (0 : Int64) (3 : Int64)) fun r7 =>
  if r7 = 0 then
    some ((-1 : Int32), I6, J)
  else
    if (2 : Int32) ≤ (I6 m_self f_Model_lamps) then
      if (4 : Int32) < (I6 m_self f_Model_wide) then
        some ((-3 : Int32), I6, J)
      else
        if (I6 m_self f_Model_lamps) ≤ (12 : Int32) then
          bx l1 4 <|
          cl (F_X12_findParted (J m_pictures (Int32.toNatClampNeg l1)) I6 J) fun r8 I9 J10 =>
          lb (fun (y11 : Int32) =>
          F_X12_better_L82 l1 y11 (fun (y35 : Int32) (y36 : Int32) (y37 : Int32) (I38 : HI) (J39 : HJ) =>
          if 0 ≤ y35 then
            lb (ui I38 m_self f_Model_rowMany (0 : Int32)) fun I40 =>
            cl (F_X12_tell (Int32.toInt64 y36) I40 J39) fun _ I41 J42 =>
            cl (F_X12_tell (Int32.toInt64 y37) I41 J42) fun _ I43 J44 =>
            cl (F_X12_tell (Int32.toInt64 y11) I43 J44) fun _ I45 J46 =>
            some (y35, I45, J46)
          else
            some ((-2 : Int32), I38, J39)) bgf (-2 : Int32) (0 : Int32) (0 : Int32) (0 : Int32) I9 J10) fun j12 =>
          if r8 = 0 then
            j12 (-2 : Int32)
          else
            j12 (I9 m_self f_Model_turns)
        else
          some ((-3 : Int32), I6, J)
    else
      some ((-1 : Int32), I6, J)
set_option maxRecDepth 100000 in
theorem cm_X12_better (b : Bool) (l1 : Int32) (I : HI) (J : HJ) : CM mX12_better 29 0 0 [.ref 81, .int l1] (zs b, I, J) (fI (zs b)) (F_X12_better l1 I J) := by
  refine S.of okX12_better pn_X12 (Nat.le_of_ble_eq_true rfl) ?_
  refine S.sub (lv' := [(0, .ref 81), (1, .int l1)]) [0, 1] rfl ?_
  unfold F_X12_better
  refine S.aload_n 0 0 rfl rfl ?_
  refine S.iconst (0 : Int32) 1 rfl (by decide) ?_
  refine S.putI 2 rfl fo_X12_159 rfl rfl rfl rfl (fun _ hq => by cases hq; exact Or.inl rfl) (fun I6 => ?_)
  refine S.iload_n 3 1 rfl rfl ?_
  refine S.i2l 4 rfl ?_
  refine S.lconst (0 : Int64) 5 rfl (by decide) ?_
  refine S.ldc2 (3 : Int64) 6 rfl ko_X12_230 ?_
  refine S.qSI (d := 1) (av := [.long (Int32.toInt64 l1), .long (0 : Int64), .long (3 : Int64)]) (rs := [.long (3 : Int64), .long (0 : Int64), .long (Int32.toInt64 l1)]) 7 rfl co_X12_165 rfl rfl ⟨⟨Nat.le_of_ble_eq_true rfl, Nat.le_of_ble_eq_true rfl⟩, ⟨Nat.le_of_ble_eq_true rfl, Nat.le_of_ble_eq_true rfl⟩, Nat.le_of_ble_eq_true rfl⟩ (cm_X12_in (zs b, I6, J) (Int32.toInt64 l1) (0 : Int64) (3 : Int64)) (fun r7 => ?_)
  refine S.if_eq 25 8 rfl (by decide) (fun _ => ?_) (fun _ => ?_)
  · refine S.iconst (-1 : Int32) 13 rfl (by decide) ?_
    exact S.iret 14 rfl rfl rfl (Nat.le_refl _) (Nat.le_refl _) rfl
  · refine S.aload_n 9 0 rfl rfl ?_
    refine S.getI 10 rfl fo_X12_169 rfl rfl ?_
    refine S.iconst (2 : Int32) 11 rfl (by decide) ?_
    refine S.icmp_ge 27 12 rfl (by decide) (fun _ => ?_) (fun _ => ?_)
    · refine S.aload_n 15 0 rfl rfl ?_
      refine S.getI 16 rfl fo_X12_9 rfl rfl ?_
      refine S.iconst (4 : Int32) 17 rfl (by decide) ?_
      refine S.icmp_gt 44 18 rfl (by decide) (fun _ => ?_) (fun _ => ?_)
      · refine S.bipush (-3 : Int32) 23 rfl (by decide) ?_
        exact S.iret 24 rfl rfl rfl (Nat.le_refl _) (Nat.le_refl _) rfl
      · refine S.aload_n 19 0 rfl rfl ?_
        refine S.getI 20 rfl fo_X12_169 rfl rfl ?_
        refine S.bipush (12 : Int32) 21 rfl (by decide) ?_
        refine S.icmp_le 47 22 rfl (by decide) (fun _ => ?_) (fun _ => ?_)
        · refine S.aload_n 25 0 rfl rfl ?_
          refine S.aload_n 26 0 rfl rfl ?_
          refine S.getR 27 rfl fo_X12_77 rfl rfl rfl ?_
          refine S.iload_n 28 1 rfl rfl ?_
          refine S.lald 29 rfl rfl ?_
          refine S.cVI (d := 28) (av := [.long (J m_pictures (Int32.toNatClampNeg l1))]) (rs := [.long (J m_pictures (Int32.toNatClampNeg l1))]) (b := 81) 30 rfl co_X12_430 rfl rfl rfl rfl rfl ⟨⟨Nat.le_of_ble_eq_true rfl, Nat.le_of_ble_eq_true rfl⟩, ⟨Nat.le_of_ble_eq_true rfl, Nat.le_of_ble_eq_true rfl⟩, Nat.le_of_ble_eq_true rfl⟩ (cm_X12_findParted b (J m_pictures (Int32.toNatClampNeg l1)) I6 J) (fun r8 I9 J10 => ?_)
          refine S.jn (fun j => ∀ (y11 : Int32), S (fI (zs b)) mX12_better (rmd 29 0 0) 0 0 (0, 0) 69 [(0, .ref 81), (1, .int l1)] [.int y11] (zs b, I9, J10) (j y11)) (fun y11 => ?_) (fun j12 hj12 => ?_)
          · refine S.istore_n [(2, .int y11), (0, .ref 81), (1, .int l1)] 36 rfl (by decide) rfl ?_
            refine S.bipush (-2 : Int32) 37 rfl (by decide) ?_
            refine S.istore_n [(3, .int (-2 : Int32)), (2, .int y11), (0, .ref 81), (1, .int l1)] 38 rfl (by decide) rfl ?_
            refine S.iconst (0 : Int32) 39 rfl (by decide) ?_
            refine S.istore [(4, .int (0 : Int32)), (3, .int (-2 : Int32)), (2, .int y11), (0, .ref 81), (1, .int l1)] 40 rfl (by decide) rfl ?_
            refine S.iconst (0 : Int32) 41 rfl (by decide) ?_
            refine S.istore [(5, .int (0 : Int32)), (4, .int (0 : Int32)), (3, .int (-2 : Int32)), (2, .int y11), (0, .ref 81), (1, .int l1)] 42 rfl (by decide) rfl ?_
            refine S.iconst (0 : Int32) 43 rfl (by decide) ?_
            refine S.istore [(6, .int (0 : Int32)), (5, .int (0 : Int32)), (4, .int (0 : Int32)), (3, .int (-2 : Int32)), (2, .int y11), (0, .ref 81), (1, .int l1)] 44 rfl (by decide) rfl ?_
            refine S.sub (lv' := [(0, .ref 81), (1, .int l1), (2, .int y11), (3, .int (-2 : Int32)), (4, .int (0 : Int32)), (5, .int (0 : Int32)), (6, .int (0 : Int32))]) [5, 6, 4, 3, 2, 1, 0] rfl ?_
            refine s_X12_better_L82 b _ _ _ (fun y35 y36 y37 I38 J39 => ?_) bgf _ _ _ _ _ _
            refine S.iload_n 96 2 rfl rfl ?_
            refine S.if_ge 194 97 rfl (by decide) (fun _ => ?_) (fun _ => ?_)
            · refine S.aload_n 100 0 rfl rfl ?_
              refine S.iconst (0 : Int32) 101 rfl (by decide) ?_
              refine S.putI 102 rfl fo_X12_162 rfl rfl rfl rfl (fun _ hq => by cases hq; exact Or.inl rfl) (fun I40 => ?_)
              refine S.aload_n 103 0 rfl rfl ?_
              refine S.iload 104 3 rfl rfl ?_
              refine S.i2l 105 rfl ?_
              refine S.cVV (d := 1) (av := [.long (Int32.toInt64 y36)]) (rs := [.long (Int32.toInt64 y36)]) (b := 81) 106 rfl co_X12_371 rfl rfl rfl rfl rfl ⟨⟨Nat.le_of_ble_eq_true rfl, Nat.le_of_ble_eq_true rfl⟩, ⟨Nat.le_of_ble_eq_true rfl, Nat.le_of_ble_eq_true rfl⟩, Nat.le_of_ble_eq_true rfl⟩ (cm_X12_tell b (Int32.toInt64 y36) I40 J39) (fun _ I41 J42 => ?_)
              refine S.aload_n 107 0 rfl rfl ?_
              refine S.iload 108 4 rfl rfl ?_
              refine S.i2l 109 rfl ?_
              refine S.cVV (d := 1) (av := [.long (Int32.toInt64 y37)]) (rs := [.long (Int32.toInt64 y37)]) (b := 81) 110 rfl co_X12_371 rfl rfl rfl rfl rfl ⟨⟨Nat.le_of_ble_eq_true rfl, Nat.le_of_ble_eq_true rfl⟩, ⟨Nat.le_of_ble_eq_true rfl, Nat.le_of_ble_eq_true rfl⟩, Nat.le_of_ble_eq_true rfl⟩ (cm_X12_tell b (Int32.toInt64 y37) I41 J42) (fun _ I43 J44 => ?_)
              refine S.aload_n 111 0 rfl rfl ?_
              refine S.iload_n 112 1 rfl rfl ?_
              refine S.i2l 113 rfl ?_
              refine S.cVV (d := 1) (av := [.long (Int32.toInt64 y11)]) (rs := [.long (Int32.toInt64 y11)]) (b := 81) 114 rfl co_X12_371 rfl rfl rfl rfl rfl ⟨⟨Nat.le_of_ble_eq_true rfl, Nat.le_of_ble_eq_true rfl⟩, ⟨Nat.le_of_ble_eq_true rfl, Nat.le_of_ble_eq_true rfl⟩, Nat.le_of_ble_eq_true rfl⟩ (cm_X12_tell b (Int32.toInt64 y11) I43 J44) (fun _ I45 J46 => ?_)
              refine S.iload_n 115 2 rfl rfl ?_
              exact S.iret 116 rfl rfl rfl (Nat.le_refl _) (Nat.le_refl _) rfl
            · refine S.bipush (-2 : Int32) 98 rfl (by decide) ?_
              exact S.iret 99 rfl rfl rfl (Nat.le_refl _) (Nat.le_refl _) rfl
          · refine S.if_eq 67 31 rfl (by decide) (fun _ => ?_) (fun _ => ?_)
            · refine S.bipush (-2 : Int32) 35 rfl (by decide) ?_
              exact hj12 _
            · refine S.aload_n 32 0 rfl rfl ?_
              refine S.getI 33 rfl fo_X12_424 rfl rfl ?_
              refine S.goto 69 34 rfl (by decide) ?_
              exact hj12 _
        · refine S.bipush (-3 : Int32) 23 rfl (by decide) ?_
          exact S.iret 24 rfl rfl rfl (Nat.le_refl _) (Nat.le_refl _) rfl
    · refine S.iconst (-1 : Int32) 13 rfl (by decide) ?_
      exact S.iret 14 rfl rfl rfl (Nat.le_refl _) (Nat.le_refl _) rfl
def F_X12_faultMany  (I : HI) (J : HJ) : Option Int32 :=
  cp (F_X12_turnedFirst I J) fun r1 =>
  some (r1 + (I m_self f_Model_lamps))
set_option maxRecDepth 100000 in
theorem cm_X12_faultMany (b : Bool)  (I : HI) (J : HJ) : CM mX12_faultMany 2 0 0 [.ref 81] (zs b, I, J) (pI (zs b, I, J)) (F_X12_faultMany  I J) := by
  refine S.of okX12_faultMany pn_X12 (Nat.le_of_ble_eq_true rfl) ?_
  refine S.sub (lv' := [(0, .ref 81)]) [0] rfl ?_
  unfold F_X12_faultMany
  refine S.aload_n 0 0 rfl rfl ?_
  refine S.qVI (d := 1) (av := []) (rs := []) (b := 81) 1 rfl co_X12_257 rfl rfl rfl rfl rfl ⟨⟨Nat.le_of_ble_eq_true rfl, Nat.le_of_ble_eq_true rfl⟩, ⟨Nat.le_of_ble_eq_true rfl, Nat.le_of_ble_eq_true rfl⟩, Nat.le_of_ble_eq_true rfl⟩ (cm_X12_turnedFirst b I J) (fun r1 => ?_)
  refine S.aload_n 2 0 rfl rfl ?_
  refine S.getI 3 rfl fo_X12_169 rfl rfl ?_
  refine S.iadd 4 rfl ?_
  exact S.iret 5 rfl rfl rfl (Nat.le_refl _) (Nat.le_refl _) rfl
def F_X12_faults  (I : HI) (J : HJ) : Option (Int32 × HI × HJ) :=
  lb (ui I m_self f_Model_thrown (0 : Int32)) fun I3 =>
  lb (ui I3 m_self f_Model_rowMany (0 : Int32)) fun I4 =>
  cp (F_X12_touchFirst I4 J) fun r5 =>
  cl (F_X12_tell (Int32.toInt64 r5) I4 J) fun _ I6 J7 =>
  cp (F_X12_turnedFirst I6 J7) fun r8 =>
  cl (F_X12_tell (Int32.toInt64 r8) I6 J7) fun _ I9 J10 =>
  cp (F_X12_faultMany I9 J10) fun r11 =>
  some (r11, I9, J10)
set_option maxRecDepth 100000 in
theorem cm_X12_faults (b : Bool)  (I : HI) (J : HJ) : CM mX12_faults 3 0 0 [.ref 81] (zs b, I, J) (fI (zs b)) (F_X12_faults  I J) := by
  refine S.of okX12_faults pn_X12 (Nat.le_of_ble_eq_true rfl) ?_
  refine S.sub (lv' := [(0, .ref 81)]) [0] rfl ?_
  unfold F_X12_faults
  refine S.aload_n 0 0 rfl rfl ?_
  refine S.iconst (0 : Int32) 1 rfl (by decide) ?_
  refine S.putI 2 rfl fo_X12_159 rfl rfl rfl rfl (fun _ hq => by cases hq; exact Or.inl rfl) (fun I3 => ?_)
  refine S.aload_n 3 0 rfl rfl ?_
  refine S.iconst (0 : Int32) 4 rfl (by decide) ?_
  refine S.putI 5 rfl fo_X12_162 rfl rfl rfl rfl (fun _ hq => by cases hq; exact Or.inl rfl) (fun I4 => ?_)
  refine S.aload_n 6 0 rfl rfl ?_
  refine S.aload_n 7 0 rfl rfl ?_
  refine S.qVI (d := 1) (av := []) (rs := []) (b := 81) 8 rfl co_X12_263 rfl rfl rfl rfl rfl ⟨⟨Nat.le_of_ble_eq_true rfl, Nat.le_of_ble_eq_true rfl⟩, ⟨Nat.le_of_ble_eq_true rfl, Nat.le_of_ble_eq_true rfl⟩, Nat.le_of_ble_eq_true rfl⟩ (cm_X12_touchFirst b I4 J) (fun r5 => ?_)
  refine S.i2l 9 rfl ?_
  refine S.cVV (d := 1) (av := [.long (Int32.toInt64 r5)]) (rs := [.long (Int32.toInt64 r5)]) (b := 81) 10 rfl co_X12_371 rfl rfl rfl rfl rfl ⟨⟨Nat.le_of_ble_eq_true rfl, Nat.le_of_ble_eq_true rfl⟩, ⟨Nat.le_of_ble_eq_true rfl, Nat.le_of_ble_eq_true rfl⟩, Nat.le_of_ble_eq_true rfl⟩ (cm_X12_tell b (Int32.toInt64 r5) I4 J) (fun _ I6 J7 => ?_)
  refine S.aload_n 11 0 rfl rfl ?_
  refine S.aload_n 12 0 rfl rfl ?_
  refine S.qVI (d := 1) (av := []) (rs := []) (b := 81) 13 rfl co_X12_257 rfl rfl rfl rfl rfl ⟨⟨Nat.le_of_ble_eq_true rfl, Nat.le_of_ble_eq_true rfl⟩, ⟨Nat.le_of_ble_eq_true rfl, Nat.le_of_ble_eq_true rfl⟩, Nat.le_of_ble_eq_true rfl⟩ (cm_X12_turnedFirst b I6 J7) (fun r8 => ?_)
  refine S.i2l 14 rfl ?_
  refine S.cVV (d := 1) (av := [.long (Int32.toInt64 r8)]) (rs := [.long (Int32.toInt64 r8)]) (b := 81) 15 rfl co_X12_371 rfl rfl rfl rfl rfl ⟨⟨Nat.le_of_ble_eq_true rfl, Nat.le_of_ble_eq_true rfl⟩, ⟨Nat.le_of_ble_eq_true rfl, Nat.le_of_ble_eq_true rfl⟩, Nat.le_of_ble_eq_true rfl⟩ (cm_X12_tell b (Int32.toInt64 r8) I6 J7) (fun _ I9 J10 => ?_)
  refine S.aload_n 16 0 rfl rfl ?_
  refine S.qVI (d := 2) (av := []) (rs := []) (b := 81) 17 rfl co_X12_260 rfl rfl rfl rfl rfl ⟨⟨Nat.le_of_ble_eq_true rfl, Nat.le_of_ble_eq_true rfl⟩, ⟨Nat.le_of_ble_eq_true rfl, Nat.le_of_ble_eq_true rfl⟩, Nat.le_of_ble_eq_true rfl⟩ (cm_X12_faultMany b I9 J10) (fun r11 => ?_)
  exact S.iret 18 rfl rfl rfl (Nat.le_refl _) (Nat.le_refl _) rfl
def F_X12_isFault (l1 : Int32) (I : HI) (J : HJ) : Option Int32 :=
  cp (F_X12_faultMany I J) fun r1 =>
  cp (F_X12_in (Int32.toInt64 l1) (0 : Int64) (Int32.toInt64 (r1 - (1 : Int32)))) fun r2 =>
  g01 r2 <|
  some r2
set_option maxRecDepth 100000 in
theorem cm_X12_isFault (b : Bool) (l1 : Int32) (I : HI) (J : HJ) : CM mX12_isFault 3 0 0 [.ref 81, .int l1] (zs b, I, J) (pI (zs b, I, J)) (F_X12_isFault l1 I J) := by
  refine S.of okX12_isFault pn_X12 (Nat.le_of_ble_eq_true rfl) ?_
  refine S.sub (lv' := [(0, .ref 81), (1, .int l1)]) [0, 1] rfl ?_
  unfold F_X12_isFault
  refine S.iload_n 0 1 rfl rfl ?_
  refine S.i2l 1 rfl ?_
  refine S.lconst (0 : Int64) 2 rfl (by decide) ?_
  refine S.aload_n 3 0 rfl rfl ?_
  refine S.qVI (d := 2) (av := []) (rs := []) (b := 81) 4 rfl co_X12_260 rfl rfl rfl rfl rfl ⟨⟨Nat.le_of_ble_eq_true rfl, Nat.le_of_ble_eq_true rfl⟩, ⟨Nat.le_of_ble_eq_true rfl, Nat.le_of_ble_eq_true rfl⟩, Nat.le_of_ble_eq_true rfl⟩ (cm_X12_faultMany b I J) (fun r1 => ?_)
  refine S.iconst (1 : Int32) 5 rfl (by decide) ?_
  refine S.isub 6 rfl ?_
  refine S.i2l 7 rfl ?_
  refine S.qSI (d := 1) (av := [.long (Int32.toInt64 l1), .long (0 : Int64), .long (Int32.toInt64 (r1 - (1 : Int32)))]) (rs := [.long (Int32.toInt64 (r1 - (1 : Int32))), .long (0 : Int64), .long (Int32.toInt64 l1)]) 8 rfl co_X12_165 rfl rfl ⟨⟨Nat.le_of_ble_eq_true rfl, Nat.le_of_ble_eq_true rfl⟩, ⟨Nat.le_of_ble_eq_true rfl, Nat.le_of_ble_eq_true rfl⟩, Nat.le_of_ble_eq_true rfl⟩ (cm_X12_in (zs b, I, J) (Int32.toInt64 l1) (0 : Int64) (Int32.toInt64 (r1 - (1 : Int32)))) (fun r2 => ?_)
  refine S.gg01 (fun h01 => ?_)
  exact S.iret 9 rfl rfl (nar01 h01) (Nat.le_refl _) (Nat.le_refl _) rfl
def F_X12_fault_ (l1 : Int32) (l2 : Int32) (I : HI) (J : HJ) : Option (Int32 × HI × HJ) :=
  lb (ui I m_self f_Model_thrown (0 : Int32)) fun I2 =>
  cp (F_X12_isFault l1 I2 J) fun r3 =>
  lb (
  cl (F_X12_lost I2 J) fun r5 I6 J7 =>
  some (r5, I6, J7)) fun j4 =>
  if r3 = 0 then
    j4
  else
    cp (F_X12_in (Int32.toInt64 l2) (0 : Int64) (2 : Int64)) fun r8 =>
    if r8 = 0 then
      j4
    else
      cl (F_X12_findFault l1 I2 J) fun _ I9 J10 =>
      if l2 = 0 then
        cp (F_X12_kindOf l1 I9 J10) fun r11 =>
        some (r11, I9, J10)
      else
        if l2 = (1 : Int32) then
          some ((I9 m_self f_Model_faultA), I9, J10)
        else
          some ((I9 m_self f_Model_faultB), I9, J10)
set_option maxRecDepth 100000 in
theorem cm_X12_fault_ (b : Bool) (l1 : Int32) (l2 : Int32) (I : HI) (J : HJ) : CM mX12_fault_ 4 0 0 [.ref 81, .int l1, .int l2] (zs b, I, J) (fI (zs b)) (F_X12_fault_ l1 l2 I J) := by
  refine S.of okX12_fault_ pn_X12 (Nat.le_of_ble_eq_true rfl) ?_
  refine S.sub (lv' := [(0, .ref 81), (1, .int l1), (2, .int l2)]) [0, 1, 2] rfl ?_
  unfold F_X12_fault_
  refine S.aload_n 0 0 rfl rfl ?_
  refine S.iconst (0 : Int32) 1 rfl (by decide) ?_
  refine S.putI 2 rfl fo_X12_159 rfl rfl rfl rfl (fun _ hq => by cases hq; exact Or.inl rfl) (fun I2 => ?_)
  refine S.aload_n 3 0 rfl rfl ?_
  refine S.iload_n 4 1 rfl rfl ?_
  refine S.qVI (d := 3) (av := [.int l1]) (rs := [.int l1]) (b := 81) 5 rfl co_X12_456 rfl rfl rfl rfl rfl ⟨⟨Nat.le_of_ble_eq_true rfl, Nat.le_of_ble_eq_true rfl⟩, ⟨Nat.le_of_ble_eq_true rfl, Nat.le_of_ble_eq_true rfl⟩, Nat.le_of_ble_eq_true rfl⟩ (cm_X12_isFault b l1 I2 J) (fun r3 => ?_)
  refine S.jn (fun j => S (fI (zs b)) mX12_fault_ (rmd 4 0 0) 0 0 (0, 0) 25 [(0, .ref 81)] [] (zs b, I2, J) (j)) ?_ (fun j4 hj4 => ?_)
  · refine S.aload_n 13 0 rfl rfl ?_
    refine S.cVI (d := 1) (av := []) (rs := []) (b := 81) 14 rfl co_X12_238 rfl rfl rfl rfl rfl ⟨⟨Nat.le_of_ble_eq_true rfl, Nat.le_of_ble_eq_true rfl⟩, ⟨Nat.le_of_ble_eq_true rfl, Nat.le_of_ble_eq_true rfl⟩, Nat.le_of_ble_eq_true rfl⟩ (cm_X12_lost b I2 J) (fun r5 I6 J7 => ?_)
    exact S.iret 15 rfl rfl rfl (Nat.le_refl _) (Nat.le_refl _) rfl
  · refine S.if_eq 25 6 rfl (by decide) (fun _ => ?_) (fun _ => ?_)
    · refine S.sub (lv' := [(0, .ref 81)]) [0] rfl ?_
      exact hj4
    · refine S.iload_n 7 2 rfl rfl ?_
      refine S.i2l 8 rfl ?_
      refine S.lconst (0 : Int64) 9 rfl (by decide) ?_
      refine S.ldc2 (2 : Int64) 10 rfl ko_X12_226 ?_
      refine S.qSI (d := 1) (av := [.long (Int32.toInt64 l2), .long (0 : Int64), .long (2 : Int64)]) (rs := [.long (2 : Int64), .long (0 : Int64), .long (Int32.toInt64 l2)]) 11 rfl co_X12_165 rfl rfl ⟨⟨Nat.le_of_ble_eq_true rfl, Nat.le_of_ble_eq_true rfl⟩, ⟨Nat.le_of_ble_eq_true rfl, Nat.le_of_ble_eq_true rfl⟩, Nat.le_of_ble_eq_true rfl⟩ (cm_X12_in (zs b, I2, J) (Int32.toInt64 l2) (0 : Int64) (2 : Int64)) (fun r8 => ?_)
      refine S.if_ne 30 12 rfl (by decide) (fun _ => ?_) (fun _ => ?_)
      · refine S.aload_n 16 0 rfl rfl ?_
        refine S.iload_n 17 1 rfl rfl ?_
        refine S.cVV (d := 3) (av := [.int l1]) (rs := [.int l1]) (b := 81) 18 rfl co_X12_276 rfl rfl rfl rfl rfl ⟨⟨Nat.le_of_ble_eq_true rfl, Nat.le_of_ble_eq_true rfl⟩, ⟨Nat.le_of_ble_eq_true rfl, Nat.le_of_ble_eq_true rfl⟩, Nat.le_of_ble_eq_true rfl⟩ (cm_X12_findFault b l1 I2 J) (fun _ I9 J10 => ?_)
        refine S.iload_n 19 2 rfl rfl ?_
        refine S.if_ne 47 20 rfl (by decide) (fun _ => ?_) (fun _ => ?_)
        · refine S.iload_n 25 2 rfl rfl ?_
          refine S.iconst (1 : Int32) 26 rfl (by decide) ?_
          refine S.icmp_ne 59 27 rfl (by decide) (fun _ => ?_) (fun _ => ?_)
          · refine S.aload_n 31 0 rfl rfl ?_
            refine S.getI 32 rfl fo_X12_273 rfl rfl ?_
            exact S.iret 33 rfl rfl rfl (Nat.le_refl _) (Nat.le_refl _) rfl
          · refine S.aload_n 28 0 rfl rfl ?_
            refine S.getI 29 rfl fo_X12_270 rfl rfl ?_
            refine S.goto 63 30 rfl (by decide) ?_
            exact S.iret 33 rfl rfl rfl (Nat.le_refl _) (Nat.le_refl _) rfl
        · refine S.aload_n 21 0 rfl rfl ?_
          refine S.iload_n 22 1 rfl rfl ?_
          refine S.qVI (d := 2) (av := [.int l1]) (rs := [.int l1]) (b := 81) 23 rfl co_X12_266 rfl rfl rfl rfl rfl ⟨⟨Nat.le_of_ble_eq_true rfl, Nat.le_of_ble_eq_true rfl⟩, ⟨Nat.le_of_ble_eq_true rfl, Nat.le_of_ble_eq_true rfl⟩, Nat.le_of_ble_eq_true rfl⟩ (cm_X12_kindOf b l1 I9 J10) (fun r11 => ?_)
          refine S.goto 63 24 rfl (by decide) ?_
          exact S.iret 33 rfl rfl rfl (Nat.le_refl _) (Nat.le_refl _) rfl
      · refine S.sub (lv' := [(0, .ref 81)]) [0] rfl ?_
        exact hj4
def F_X12_would (l1 : Int32) (l2 : Int32) (l3 : Int32) (I : HI) (J : HJ) : Option (Int64 × HI × HJ) :=
  lb (ui I m_self f_Model_thrown (0 : Int32)) fun I2 =>
  cp (F_X12_isFault l1 I2 J) fun r3 =>
  if r3 = 0 then
    some ((-1 : Int64), I2, J)
  else
    cp (F_X12_isSetting l2 l3 I2 J) fun r4 =>
    if r4 = 0 then
      some ((-1 : Int64), I2, J)
    else
      cl (F_X12_glowingWith l1 l2 l3 I2 J) fun r5 I6 J7 =>
      some (r5, I6, J7)
set_option maxRecDepth 100000 in
theorem cm_X12_would (b : Bool) (l1 : Int32) (l2 : Int32) (l3 : Int32) (I : HI) (J : HJ) : CM mX12_would 26 0 0 [.ref 81, .int l1, .int l2, .int l3] (zs b, I, J) (fL (zs b)) (F_X12_would l1 l2 l3 I J) := by
  refine S.of okX12_would pn_X12 (Nat.le_of_ble_eq_true rfl) ?_
  refine S.sub (lv' := [(0, .ref 81), (1, .int l1), (2, .int l2), (3, .int l3)]) [0, 1, 2, 3] rfl ?_
  unfold F_X12_would
  refine S.aload_n 0 0 rfl rfl ?_
  refine S.iconst (0 : Int32) 1 rfl (by decide) ?_
  refine S.putI 2 rfl fo_X12_159 rfl rfl rfl rfl (fun _ hq => by cases hq; exact Or.inl rfl) (fun I2 => ?_)
  refine S.aload_n 3 0 rfl rfl ?_
  refine S.iload_n 4 1 rfl rfl ?_
  refine S.qVI (d := 3) (av := [.int l1]) (rs := [.int l1]) (b := 81) 5 rfl co_X12_456 rfl rfl rfl rfl rfl ⟨⟨Nat.le_of_ble_eq_true rfl, Nat.le_of_ble_eq_true rfl⟩, ⟨Nat.le_of_ble_eq_true rfl, Nat.le_of_ble_eq_true rfl⟩, Nat.le_of_ble_eq_true rfl⟩ (cm_X12_isFault b l1 I2 J) (fun r3 => ?_)
  refine S.if_eq 32 6 rfl (by decide) (fun _ => ?_) (fun _ => ?_)
  · refine S.ldc2 (-1 : Int64) 18 rfl ko_X12_366 ?_
    exact S.lret 19 rfl rfl (Nat.le_refl _) (Nat.le_refl _) rfl
  · refine S.aload_n 7 0 rfl rfl ?_
    refine S.iload_n 8 2 rfl rfl ?_
    refine S.iload_n 9 3 rfl rfl ?_
    refine S.qVI (d := 2) (av := [.int l2, .int l3]) (rs := [.int l3, .int l2]) (b := 81) 10 rfl co_X12_350 rfl rfl rfl rfl rfl ⟨⟨Nat.le_of_ble_eq_true rfl, Nat.le_of_ble_eq_true rfl⟩, ⟨Nat.le_of_ble_eq_true rfl, Nat.le_of_ble_eq_true rfl⟩, Nat.le_of_ble_eq_true rfl⟩ (cm_X12_isSetting b l2 l3 I2 J) (fun r4 => ?_)
    refine S.if_eq 32 11 rfl (by decide) (fun _ => ?_) (fun _ => ?_)
    · refine S.ldc2 (-1 : Int64) 18 rfl ko_X12_366 ?_
      exact S.lret 19 rfl rfl (Nat.le_refl _) (Nat.le_refl _) rfl
    · refine S.aload_n 12 0 rfl rfl ?_
      refine S.iload_n 13 1 rfl rfl ?_
      refine S.iload_n 14 2 rfl rfl ?_
      refine S.iload_n 15 3 rfl rfl ?_
      refine S.cVL (d := 25) (av := [.int l1, .int l2, .int l3]) (rs := [.int l3, .int l2, .int l1]) (b := 81) 16 rfl co_X12_353 rfl rfl rfl rfl rfl ⟨⟨Nat.le_of_ble_eq_true rfl, Nat.le_of_ble_eq_true rfl⟩, ⟨Nat.le_of_ble_eq_true rfl, Nat.le_of_ble_eq_true rfl⟩, Nat.le_of_ble_eq_true rfl⟩ (cm_X12_glowingWith b l1 l2 l3 I2 J) (fun r5 I6 J7 => ?_)
      refine S.goto 35 17 rfl (by decide) ?_
      exact S.lret 19 rfl rfl (Nat.le_refl _) (Nat.le_refl _) rfl
def F_X12_findGlow_113_L13 (l3 : Int32) : Nat → Int32 → HI → HJ → Option (Unit × HI × HJ)
  | 0, _, _, _ => none
  | K+1, l4, I, J =>
    if l3 ≤ l4 then
      some ((), I, J)
    else
      cp (F_X12_highOf l4 I J) fun r5 =>
      cp (F_X12_lowOf l4 I J) fun r6 =>
      cl (F_X12_glowing r5 r6 I J) fun r7 I8 J9 =>
      bx l4 2187 <|
      lb (uj J9 m_glowToo (Int32.toNatClampNeg l4) r7) fun J10 =>
      F_X12_findGlow_113_L13 l3 K (l4 + 1) I8 J10
set_option maxRecDepth 100000 in
theorem s_X12_findGlow_113_L13 (b : Bool) (l3 : Int32) : ∀ (K : Nat) (l4 : Int32) (I : HI) (J : HJ), S (fV (zs b)) mX12_findGlow (rmd 25 0 0) 0 0 (0, 0) 13 [(0, .ref 81), (2, .ref 113), (3, .int l3), (4, .int l4)] [] (zs b, I, J) (F_X12_findGlow_113_L13 l3 K l4 I J) := by
  intro K
  induction K with
  | zero => intro l4 I J; exact S.none
  | succ K ih =>
    intro l4 I J
    rw [F_X12_findGlow_113_L13]
    refine S.iload 8 3 rfl rfl ?_
    refine S.iload_n 9 2 rfl rfl ?_
    refine S.icmp_ge 45 10 rfl (by decide) (fun _ => ?_) (fun _ => ?_)
    · exact S.vret 24 rfl rfl (Nat.le_refl _) (Nat.le_refl _) rfl
    · refine S.aload_n 11 1 rfl rfl ?_
      refine S.iload 12 3 rfl rfl ?_
      refine S.aload_n 13 0 rfl rfl ?_
      refine S.aload_n 14 0 rfl rfl ?_
      refine S.iload 15 3 rfl rfl ?_
      refine S.qVI (d := 2) (av := [.int l4]) (rs := [.int l4]) (b := 81) 16 rfl co_X12_383 rfl rfl rfl rfl rfl ⟨⟨Nat.le_of_ble_eq_true rfl, Nat.le_of_ble_eq_true rfl⟩, ⟨Nat.le_of_ble_eq_true rfl, Nat.le_of_ble_eq_true rfl⟩, Nat.le_of_ble_eq_true rfl⟩ (cm_X12_highOf b l4 I J) (fun r5 => ?_)
      refine S.aload_n 17 0 rfl rfl ?_
      refine S.iload 18 3 rfl rfl ?_
      refine S.qVI (d := 2) (av := [.int l4]) (rs := [.int l4]) (b := 81) 19 rfl co_X12_386 rfl rfl rfl rfl rfl ⟨⟨Nat.le_of_ble_eq_true rfl, Nat.le_of_ble_eq_true rfl⟩, ⟨Nat.le_of_ble_eq_true rfl, Nat.le_of_ble_eq_true rfl⟩, Nat.le_of_ble_eq_true rfl⟩ (cm_X12_lowOf b l4 I J) (fun r6 => ?_)
      refine S.cVL (d := 24) (av := [.int r5, .int r6]) (rs := [.int r6, .int r5]) (b := 81) 20 rfl co_X12_346 rfl rfl rfl rfl rfl ⟨⟨Nat.le_of_ble_eq_true rfl, Nat.le_of_ble_eq_true rfl⟩, ⟨Nat.le_of_ble_eq_true rfl, Nat.le_of_ble_eq_true rfl⟩, Nat.le_of_ble_eq_true rfl⟩ (cm_X12_glowing b r5 r6 I J) (fun r7 I8 J9 => ?_)
      refine S.last 21 rfl rfl (fun J10 => ?_)
      refine S.iinc (l4 + 1) [(4, .int (l4 + 1)), (0, .ref 81), (2, .ref 113), (3, .int l3)] 22 3 rfl rfl rfl (by decide) rfl ?_
      refine S.goto 13 23 rfl (by decide) ?_
      refine S.sub (lv' := [(0, .ref 81), (2, .ref 113), (3, .int l3), (4, .int (l4 + 1))]) [1, 2, 3, 0] rfl ?_
      exact ih _ _ _
def F_X12_findGlow_113 (l1 : Int32) (I : HI) (J : HJ) : Option (Unit × HI × HJ) :=
  cl (F_X12_lay l1 I J) fun _ I2 J3 =>
  cp (F_X12_settings I2 J3) fun r4 =>
  F_X12_findGlow_113_L13 r4 bgf (0 : Int32) I2 J3
set_option maxRecDepth 100000 in
theorem cm_X12_findGlow_113 (b : Bool) (l1 : Int32) (I : HI) (J : HJ) : CM mX12_findGlow 25 0 0 [.ref 81, .int l1, .ref 113] (zs b, I, J) (fV (zs b)) (F_X12_findGlow_113 l1 I J) := by
  refine S.of okX12_findGlow pn_X12 (Nat.le_of_ble_eq_true rfl) ?_
  refine S.sub (lv' := [(0, .ref 81), (1, .int l1), (2, .ref 113)]) [0, 1, 2] rfl ?_
  unfold F_X12_findGlow_113
  refine S.aload_n 0 0 rfl rfl ?_
  refine S.iload_n 1 1 rfl rfl ?_
  refine S.cVV (d := 4) (av := [.int l1]) (rs := [.int l1]) (b := 81) 2 rfl co_X12_343 rfl rfl rfl rfl rfl ⟨⟨Nat.le_of_ble_eq_true rfl, Nat.le_of_ble_eq_true rfl⟩, ⟨Nat.le_of_ble_eq_true rfl, Nat.le_of_ble_eq_true rfl⟩, Nat.le_of_ble_eq_true rfl⟩ (cm_X12_lay b l1 I J) (fun _ I2 J3 => ?_)
  refine S.aload_n 3 0 rfl rfl ?_
  refine S.qVI (d := 1) (av := []) (rs := []) (b := 81) 4 rfl co_X12_380 rfl rfl rfl rfl rfl ⟨⟨Nat.le_of_ble_eq_true rfl, Nat.le_of_ble_eq_true rfl⟩, ⟨Nat.le_of_ble_eq_true rfl, Nat.le_of_ble_eq_true rfl⟩, Nat.le_of_ble_eq_true rfl⟩ (cm_X12_settings b I2 J3) (fun r4 => ?_)
  refine S.istore_n [(3, .int r4), (0, .ref 81), (1, .int l1), (2, .ref 113)] 5 rfl (by decide) rfl ?_
  refine S.iconst (0 : Int32) 6 rfl (by decide) ?_
  refine S.istore [(4, .int (0 : Int32)), (3, .int r4), (0, .ref 81), (1, .int l1), (2, .ref 113)] 7 rfl (by decide) rfl ?_
  refine S.sub (lv' := [(0, .ref 81), (2, .ref 113), (3, .int r4), (4, .int (0 : Int32))]) [2, 4, 1, 0] rfl ?_
  refine s_X12_findGlow_113_L13 b _ bgf _ _ _
def F_X12_tells_L52  : Nat → Int32 → Int32 → HI → HJ → Option (Int32 × HI × HJ)
  | 0, _, _, _, _ => none
  | K+1, l2, l3, I, J =>
    cp (F_X12_settings I J) fun r11 =>
    if r11 ≤ l3 then
      some (l2, I, J)
    else
      bx l3 2187 <|
      bx l3 2187 <|
      lb (fun (y12 : Int32) (I13 : HI) (J14 : HJ) =>
      F_X12_tells_L52 K y12 (l3 + 1) I13 J14) fun j15 =>
      if (lg_cmp (J m_glow (Int32.toNatClampNeg l3)) (J m_glowToo (Int32.toNatClampNeg l3))) = 0 then
        j15 l2 I J
      else
        lb (fun (I16 : HI) (J17 : HJ) =>
        j15 (l2 + 1) I16 J17) fun j18 =>
        if l2 = 0 then
          cl (F_X12_tell (Int32.toInt64 l3) I J) fun _ I19 J20 =>
          j18 I19 J20
        else
          j18 I J
set_option maxRecDepth 100000 in
theorem s_X12_tells_L52 (b : Bool)  : ∀ (K : Nat) (l2 : Int32) (l3 : Int32) (I : HI) (J : HJ), S (fI (zs b)) mX12_tells (rmd 26 0 0) 0 0 (0, 0) 52 [(0, .ref 81), (2, .int l2), (3, .int l3)] [] (zs b, I, J) (F_X12_tells_L52 K l2 l3 I J) := by
  intro K
  induction K with
  | zero => intro l2 l3 I J; exact S.none
  | succ K ih =>
    intro l2 l3 I J
    rw [F_X12_tells_L52]
    refine S.iload_n 31 2 rfl rfl ?_
    refine S.aload_n 32 0 rfl rfl ?_
    refine S.qVI (d := 1) (av := []) (rs := []) (b := 81) 33 rfl co_X12_380 rfl rfl rfl rfl rfl ⟨⟨Nat.le_of_ble_eq_true rfl, Nat.le_of_ble_eq_true rfl⟩, ⟨Nat.le_of_ble_eq_true rfl, Nat.le_of_ble_eq_true rfl⟩, Nat.le_of_ble_eq_true rfl⟩ (cm_X12_settings b I J) (fun r11 => ?_)
    refine S.icmp_ge 98 34 rfl (by decide) (fun _ => ?_) (fun _ => ?_)
    · refine S.iload_n 55 1 rfl rfl ?_
      exact S.iret 56 rfl rfl rfl (Nat.le_refl _) (Nat.le_refl _) rfl
    · refine S.aload_n 35 0 rfl rfl ?_
      refine S.getR 36 rfl fo_X12_70 rfl rfl rfl ?_
      refine S.iload_n 37 2 rfl rfl ?_
      refine S.lald 38 rfl rfl ?_
      refine S.aload_n 39 0 rfl rfl ?_
      refine S.getR 40 rfl fo_X12_113 rfl rfl rfl ?_
      refine S.iload_n 41 2 rfl rfl ?_
      refine S.lald 42 rfl rfl ?_
      refine S.lcmp 43 rfl ?_
      refine S.jn (fun j => ∀ (y12 : Int32) (I13 : HI) (J14 : HJ), S (fI (zs b)) mX12_tells (rmd 26 0 0) 0 0 (0, 0) 92 [(0, .ref 81), (2, .int y12), (3, .int l3)] [] (zs b, I13, J14) (j y12 I13 J14)) (fun y12 I13 J14 => ?_) (fun j15 hj15 => ?_)
      · refine S.iinc (l3 + 1) [(3, .int (l3 + 1)), (0, .ref 81), (2, .int y12)] 53 2 rfl rfl rfl (by decide) rfl ?_
        refine S.goto 52 54 rfl (by decide) ?_
        refine S.sub (lv' := [(0, .ref 81), (2, .int y12), (3, .int (l3 + 1))]) [1, 2, 0] rfl ?_
        exact ih _ _ _ _
      · refine S.if_ne 79 44 rfl (by decide) (fun _ => ?_) (fun _ => ?_)
        · refine S.iload_n 46 1 rfl rfl ?_
          refine S.jn (fun j => ∀ (I16 : HI) (J17 : HJ), S (fI (zs b)) mX12_tells (rmd 26 0 0) 0 0 (0, 0) 89 [(0, .ref 81), (2, .int l2), (3, .int l3)] [] (zs b, I16, J17) (j I16 J17)) (fun I16 J17 => ?_) (fun j18 hj18 => ?_)
          · refine S.iinc (l2 + 1) [(2, .int (l2 + 1)), (0, .ref 81), (3, .int l3)] 52 1 rfl rfl rfl (by decide) rfl ?_
            refine S.sub (lv' := [(0, .ref 81), (2, .int (l2 + 1)), (3, .int l3)]) [1, 0, 2] rfl ?_
            exact hj15 _ _ _
          · refine S.if_ne 89 47 rfl (by decide) (fun _ => ?_) (fun _ => ?_)
            · exact hj18 _ _
            · refine S.aload_n 48 0 rfl rfl ?_
              refine S.iload_n 49 2 rfl rfl ?_
              refine S.i2l 50 rfl ?_
              refine S.cVV (d := 1) (av := [.long (Int32.toInt64 l3)]) (rs := [.long (Int32.toInt64 l3)]) (b := 81) 51 rfl co_X12_371 rfl rfl rfl rfl rfl ⟨⟨Nat.le_of_ble_eq_true rfl, Nat.le_of_ble_eq_true rfl⟩, ⟨Nat.le_of_ble_eq_true rfl, Nat.le_of_ble_eq_true rfl⟩, Nat.le_of_ble_eq_true rfl⟩ (cm_X12_tell b (Int32.toInt64 l3) I J) (fun _ I19 J20 => ?_)
              exact hj18 _ _
        · refine S.goto 92 45 rfl (by decide) ?_
          exact hj15 _ _ _
def F_X12_tells (l1 : Int32) (I : HI) (J : HJ) : Option (Int32 × HI × HJ) :=
  lb (ui I m_self f_Model_thrown (0 : Int32)) fun I3 =>
  cp (F_X12_isFault l1 I3 J) fun r4 =>
  if r4 = 0 then
    some ((-1 : Int32), I3, J)
  else
    cp (F_X12_canSearch I3 J) fun r5 =>
    if r5 = 0 then
      some ((-3 : Int32), I3, J)
    else
      cl (F_X12_findGlow_99 (0 : Int32) I3 J) fun _ I6 J7 =>
      cl (F_X12_findGlow_113 l1 I6 J7) fun _ I8 J9 =>
      lb (ui I8 m_self f_Model_rowMany (0 : Int32)) fun I10 =>
      F_X12_tells_L52 bgf (0 : Int32) (0 : Int32) I10 J9
set_option maxRecDepth 100000 in
theorem cm_X12_tells (b : Bool) (l1 : Int32) (I : HI) (J : HJ) : CM mX12_tells 26 0 0 [.ref 81, .int l1] (zs b, I, J) (fI (zs b)) (F_X12_tells l1 I J) := by
  refine S.of okX12_tells pn_X12 (Nat.le_of_ble_eq_true rfl) ?_
  refine S.sub (lv' := [(0, .ref 81), (1, .int l1)]) [0, 1] rfl ?_
  unfold F_X12_tells
  refine S.aload_n 0 0 rfl rfl ?_
  refine S.iconst (0 : Int32) 1 rfl (by decide) ?_
  refine S.putI 2 rfl fo_X12_159 rfl rfl rfl rfl (fun _ hq => by cases hq; exact Or.inl rfl) (fun I3 => ?_)
  refine S.aload_n 3 0 rfl rfl ?_
  refine S.iload_n 4 1 rfl rfl ?_
  refine S.qVI (d := 3) (av := [.int l1]) (rs := [.int l1]) (b := 81) 5 rfl co_X12_456 rfl rfl rfl rfl rfl ⟨⟨Nat.le_of_ble_eq_true rfl, Nat.le_of_ble_eq_true rfl⟩, ⟨Nat.le_of_ble_eq_true rfl, Nat.le_of_ble_eq_true rfl⟩, Nat.le_of_ble_eq_true rfl⟩ (cm_X12_isFault b l1 I3 J) (fun r4 => ?_)
  refine S.if_ne 15 6 rfl (by decide) (fun _ => ?_) (fun _ => ?_)
  · refine S.aload_n 9 0 rfl rfl ?_
    refine S.qVI (d := 1) (av := []) (rs := []) (b := 81) 10 rfl co_X12_397 rfl rfl rfl rfl rfl ⟨⟨Nat.le_of_ble_eq_true rfl, Nat.le_of_ble_eq_true rfl⟩, ⟨Nat.le_of_ble_eq_true rfl, Nat.le_of_ble_eq_true rfl⟩, Nat.le_of_ble_eq_true rfl⟩ (cm_X12_canSearch b I3 J) (fun r5 => ?_)
    refine S.if_ne 25 11 rfl (by decide) (fun _ => ?_) (fun _ => ?_)
    · refine S.aload_n 14 0 rfl rfl ?_
      refine S.iconst (0 : Int32) 15 rfl (by decide) ?_
      refine S.aload_n 16 0 rfl rfl ?_
      refine S.getR 17 rfl fo_X12_70 rfl rfl rfl ?_
      refine S.cVV (d := 25) (av := [.int (0 : Int32), .ref 99]) (rs := [.ref 99, .int (0 : Int32)]) (b := 81) 18 rfl co_X12_389 rfl rfl rfl rfl rfl ⟨⟨Nat.le_of_ble_eq_true rfl, Nat.le_of_ble_eq_true rfl⟩, ⟨Nat.le_of_ble_eq_true rfl, Nat.le_of_ble_eq_true rfl⟩, Nat.le_of_ble_eq_true rfl⟩ (cm_X12_findGlow_99 b (0 : Int32) I3 J) (fun _ I6 J7 => ?_)
      refine S.aload_n 19 0 rfl rfl ?_
      refine S.iload_n 20 1 rfl rfl ?_
      refine S.aload_n 21 0 rfl rfl ?_
      refine S.getR 22 rfl fo_X12_113 rfl rfl rfl ?_
      refine S.cVV (d := 25) (av := [.int l1, .ref 113]) (rs := [.ref 113, .int l1]) (b := 81) 23 rfl co_X12_389 rfl rfl rfl rfl rfl ⟨⟨Nat.le_of_ble_eq_true rfl, Nat.le_of_ble_eq_true rfl⟩, ⟨Nat.le_of_ble_eq_true rfl, Nat.le_of_ble_eq_true rfl⟩, Nat.le_of_ble_eq_true rfl⟩ (cm_X12_findGlow_113 b l1 I6 J7) (fun _ I8 J9 => ?_)
      refine S.iconst (0 : Int32) 24 rfl (by decide) ?_
      refine S.istore_n [(2, .int (0 : Int32)), (0, .ref 81), (1, .int l1)] 25 rfl (by decide) rfl ?_
      refine S.aload_n 26 1 rfl rfl ?_
      refine S.iconst (0 : Int32) 27 rfl (by decide) ?_
      refine S.putI 28 rfl fo_X12_162 rfl rfl rfl rfl (fun _ hq => by cases hq; exact Or.inl rfl) (fun I10 => ?_)
      refine S.iconst (0 : Int32) 29 rfl (by decide) ?_
      refine S.istore_n [(3, .int (0 : Int32)), (2, .int (0 : Int32)), (0, .ref 81), (1, .int l1)] 30 rfl (by decide) rfl ?_
      refine S.sub (lv' := [(0, .ref 81), (2, .int (0 : Int32)), (3, .int (0 : Int32))]) [2, 1, 0] rfl ?_
      refine s_X12_tells_L52 b bgf _ _ _ _
    · refine S.bipush (-3 : Int32) 12 rfl (by decide) ?_
      exact S.iret 13 rfl rfl rfl (Nat.le_refl _) (Nat.le_refl _) rfl
  · refine S.iconst (-1 : Int32) 7 rfl (by decide) ?_
    exact S.iret 8 rfl rfl rfl (Nat.le_refl _) (Nat.le_refl _) rfl
def F_X12_firstUnlike_L2 (I : HI) (J : HJ) : Nat → Int32 → Option Int32
  | 0, _ => none
  | K+1, l1 =>
    cp (F_X12_settings I J) fun r1 =>
    if r1 ≤ l1 then
      some (-1 : Int32)
    else
      bx l1 2187 <|
      bx l1 2187 <|
      if (lg_cmp (J m_glow (Int32.toNatClampNeg l1)) (J m_glowToo (Int32.toNatClampNeg l1))) = 0 then
        F_X12_firstUnlike_L2 I J K (l1 + 1)
      else
        some l1
set_option maxRecDepth 100000 in
theorem s_X12_firstUnlike_L2 (b : Bool) (I : HI) (J : HJ) : ∀ (K : Nat) (l1 : Int32), S (pI (zs b, I, J)) mX12_firstUnlike (rmd 2 0 0) 0 0 (0, 0) 2 [(0, .ref 81), (1, .int l1)] [] (zs b, I, J) (F_X12_firstUnlike_L2 I J K l1) := by
  intro K
  induction K with
  | zero => intro l1; exact S.none
  | succ K ih =>
    intro l1
    rw [F_X12_firstUnlike_L2]
    refine S.iload_n 2 1 rfl rfl ?_
    refine S.aload_n 3 0 rfl rfl ?_
    refine S.qVI (d := 1) (av := []) (rs := []) (b := 81) 4 rfl co_X12_380 rfl rfl rfl rfl rfl ⟨⟨Nat.le_of_ble_eq_true rfl, Nat.le_of_ble_eq_true rfl⟩, ⟨Nat.le_of_ble_eq_true rfl, Nat.le_of_ble_eq_true rfl⟩, Nat.le_of_ble_eq_true rfl⟩ (cm_X12_settings b I J) (fun r1 => ?_)
    refine S.icmp_ge 34 5 rfl (by decide) (fun _ => ?_) (fun _ => ?_)
    · refine S.iconst (-1 : Int32) 20 rfl (by decide) ?_
      exact S.iret 21 rfl rfl rfl (Nat.le_refl _) (Nat.le_refl _) rfl
    · refine S.aload_n 6 0 rfl rfl ?_
      refine S.getR 7 rfl fo_X12_70 rfl rfl rfl ?_
      refine S.iload_n 8 1 rfl rfl ?_
      refine S.lald 9 rfl rfl ?_
      refine S.aload_n 10 0 rfl rfl ?_
      refine S.getR 11 rfl fo_X12_113 rfl rfl rfl ?_
      refine S.iload_n 12 1 rfl rfl ?_
      refine S.lald 13 rfl rfl ?_
      refine S.lcmp 14 rfl ?_
      refine S.if_eq 28 15 rfl (by decide) (fun _ => ?_) (fun _ => ?_)
      · refine S.iinc (l1 + 1) [(1, .int (l1 + 1)), (0, .ref 81)] 18 1 rfl rfl rfl (by decide) rfl ?_
        refine S.goto 2 19 rfl (by decide) ?_
        refine S.sub (lv' := [(0, .ref 81), (1, .int (l1 + 1))]) [1, 0] rfl ?_
        exact ih _
      · refine S.iload_n 16 1 rfl rfl ?_
        exact S.iret 17 rfl rfl rfl (Nat.le_refl _) (Nat.le_refl _) rfl
def F_X12_firstUnlike  (I : HI) (J : HJ) : Option Int32 :=
  F_X12_firstUnlike_L2 I J bgf (0 : Int32)
set_option maxRecDepth 100000 in
theorem cm_X12_firstUnlike (b : Bool)  (I : HI) (J : HJ) : CM mX12_firstUnlike 2 0 0 [.ref 81] (zs b, I, J) (pI (zs b, I, J)) (F_X12_firstUnlike  I J) := by
  refine S.of okX12_firstUnlike pn_X12 (Nat.le_of_ble_eq_true rfl) ?_
  refine S.sub (lv' := [(0, .ref 81)]) [0] rfl ?_
  unfold F_X12_firstUnlike
  refine S.iconst (0 : Int32) 0 rfl (by decide) ?_
  refine S.istore_n [(1, .int (0 : Int32)), (0, .ref 81)] 1 rfl (by decide) rfl ?_
  refine S.sub (lv' := [(0, .ref 81), (1, .int (0 : Int32))]) [1, 0] rfl ?_
  refine s_X12_firstUnlike_L2 b _ _ bgf _
def F_X12_hidden_L33  : Nat → Int32 → Int32 → HI → HJ → Option (Int32 × HI × HJ)
  | 0, _, _, _, _ => none
  | K+1, l1, l2, I, J =>
    cp (F_X12_faultMany I J) fun r8 =>
    if r8 ≤ l2 then
      some (l1, I, J)
    else
      cl (F_X12_findGlow_113 l2 I J) fun _ I9 J10 =>
      cp (F_X12_firstUnlike I9 J10) fun r11 =>
      lb (fun (y12 : Int32) (I13 : HI) (J14 : HJ) =>
      F_X12_hidden_L33 K y12 (l2 + 1) I13 J14) fun j15 =>
      if r11 = (-1 : Int32) then
        lb (fun (I16 : HI) (J17 : HJ) =>
        j15 (l1 + 1) I16 J17) fun j18 =>
        if (8 : Int32) ≤ l1 then
          j18 I9 J10
        else
          cl (F_X12_tell (Int32.toInt64 l2) I9 J10) fun _ I19 J20 =>
          j18 I19 J20
      else
        j15 l1 I9 J10
set_option maxRecDepth 100000 in
theorem s_X12_hidden_L33 (b : Bool)  : ∀ (K : Nat) (l1 : Int32) (l2 : Int32) (I : HI) (J : HJ), S (fI (zs b)) mX12_hidden (rmd 26 0 0) 0 0 (0, 0) 33 [(0, .ref 81), (1, .int l1), (2, .int l2)] [] (zs b, I, J) (F_X12_hidden_L33 K l1 l2 I J) := by
  intro K
  induction K with
  | zero => intro l1 l2 I J; exact S.none
  | succ K ih =>
    intro l1 l2 I J
    rw [F_X12_hidden_L33]
    refine S.iload_n 20 2 rfl rfl ?_
    refine S.aload_n 21 0 rfl rfl ?_
    refine S.qVI (d := 2) (av := []) (rs := []) (b := 81) 22 rfl co_X12_260 rfl rfl rfl rfl rfl ⟨⟨Nat.le_of_ble_eq_true rfl, Nat.le_of_ble_eq_true rfl⟩, ⟨Nat.le_of_ble_eq_true rfl, Nat.le_of_ble_eq_true rfl⟩, Nat.le_of_ble_eq_true rfl⟩ (cm_X12_faultMany b I J) (fun r8 => ?_)
    refine S.icmp_ge 82 23 rfl (by decide) (fun _ => ?_) (fun _ => ?_)
    · refine S.iload_n 44 1 rfl rfl ?_
      exact S.iret 45 rfl rfl rfl (Nat.le_refl _) (Nat.le_refl _) rfl
    · refine S.aload_n 24 0 rfl rfl ?_
      refine S.iload_n 25 2 rfl rfl ?_
      refine S.aload_n 26 0 rfl rfl ?_
      refine S.getR 27 rfl fo_X12_113 rfl rfl rfl ?_
      refine S.cVV (d := 25) (av := [.int l2, .ref 113]) (rs := [.ref 113, .int l2]) (b := 81) 28 rfl co_X12_389 rfl rfl rfl rfl rfl ⟨⟨Nat.le_of_ble_eq_true rfl, Nat.le_of_ble_eq_true rfl⟩, ⟨Nat.le_of_ble_eq_true rfl, Nat.le_of_ble_eq_true rfl⟩, Nat.le_of_ble_eq_true rfl⟩ (cm_X12_findGlow_113 b l2 I J) (fun _ I9 J10 => ?_)
      refine S.aload_n 29 0 rfl rfl ?_
      refine S.qVI (d := 2) (av := []) (rs := []) (b := 81) 30 rfl co_X12_459 rfl rfl rfl rfl rfl ⟨⟨Nat.le_of_ble_eq_true rfl, Nat.le_of_ble_eq_true rfl⟩, ⟨Nat.le_of_ble_eq_true rfl, Nat.le_of_ble_eq_true rfl⟩, Nat.le_of_ble_eq_true rfl⟩ (cm_X12_firstUnlike b I9 J10) (fun r11 => ?_)
      refine S.iconst (-1 : Int32) 31 rfl (by decide) ?_
      refine S.jn (fun j => ∀ (y12 : Int32) (I13 : HI) (J14 : HJ), S (fI (zs b)) mX12_hidden (rmd 26 0 0) 0 0 (0, 0) 76 [(0, .ref 81), (1, .int y12), (2, .int l2)] [] (zs b, I13, J14) (j y12 I13 J14)) (fun y12 I13 J14 => ?_) (fun j15 hj15 => ?_)
      · refine S.iinc (l2 + 1) [(2, .int (l2 + 1)), (0, .ref 81), (1, .int y12)] 42 2 rfl rfl rfl (by decide) rfl ?_
        refine S.goto 33 43 rfl (by decide) ?_
        refine S.sub (lv' := [(0, .ref 81), (1, .int y12), (2, .int (l2 + 1))]) [1, 2, 0] rfl ?_
        exact ih _ _ _ _
      · refine S.icmp_eq 61 32 rfl (by decide) (fun _ => ?_) (fun _ => ?_)
        · refine S.iload_n 34 1 rfl rfl ?_
          refine S.bipush (8 : Int32) 35 rfl (by decide) ?_
          refine S.jn (fun j => ∀ (I16 : HI) (J17 : HJ), S (fI (zs b)) mX12_hidden (rmd 26 0 0) 0 0 (0, 0) 73 [(0, .ref 81), (1, .int l1), (2, .int l2)] [] (zs b, I16, J17) (j I16 J17)) (fun I16 J17 => ?_) (fun j18 hj18 => ?_)
          · refine S.iinc (l1 + 1) [(1, .int (l1 + 1)), (0, .ref 81), (2, .int l2)] 41 1 rfl rfl rfl (by decide) rfl ?_
            refine S.sub (lv' := [(0, .ref 81), (1, .int (l1 + 1)), (2, .int l2)]) [1, 0, 2] rfl ?_
            exact hj15 _ _ _
          · refine S.icmp_ge 73 36 rfl (by decide) (fun _ => ?_) (fun _ => ?_)
            · exact hj18 _ _
            · refine S.aload_n 37 0 rfl rfl ?_
              refine S.iload_n 38 2 rfl rfl ?_
              refine S.i2l 39 rfl ?_
              refine S.cVV (d := 1) (av := [.long (Int32.toInt64 l2)]) (rs := [.long (Int32.toInt64 l2)]) (b := 81) 40 rfl co_X12_371 rfl rfl rfl rfl rfl ⟨⟨Nat.le_of_ble_eq_true rfl, Nat.le_of_ble_eq_true rfl⟩, ⟨Nat.le_of_ble_eq_true rfl, Nat.le_of_ble_eq_true rfl⟩, Nat.le_of_ble_eq_true rfl⟩ (cm_X12_tell b (Int32.toInt64 l2) I9 J10) (fun _ I19 J20 => ?_)
              exact hj18 _ _
        · refine S.goto 76 33 rfl (by decide) ?_
          exact hj15 _ _ _
def F_X12_hidden  (I : HI) (J : HJ) : Option (Int32 × HI × HJ) :=
  lb (ui I m_self f_Model_thrown (0 : Int32)) fun I3 =>
  cp (F_X12_canSearch I3 J) fun r4 =>
  if r4 = 0 then
    some ((-3 : Int32), I3, J)
  else
    cl (F_X12_findGlow_99 (0 : Int32) I3 J) fun _ I5 J6 =>
    lb (ui I5 m_self f_Model_rowMany (0 : Int32)) fun I7 =>
    F_X12_hidden_L33 bgf (0 : Int32) (1 : Int32) I7 J6
set_option maxRecDepth 100000 in
theorem cm_X12_hidden (b : Bool)  (I : HI) (J : HJ) : CM mX12_hidden 26 0 0 [.ref 81] (zs b, I, J) (fI (zs b)) (F_X12_hidden  I J) := by
  refine S.of okX12_hidden pn_X12 (Nat.le_of_ble_eq_true rfl) ?_
  refine S.sub (lv' := [(0, .ref 81)]) [0] rfl ?_
  unfold F_X12_hidden
  refine S.aload_n 0 0 rfl rfl ?_
  refine S.iconst (0 : Int32) 1 rfl (by decide) ?_
  refine S.putI 2 rfl fo_X12_159 rfl rfl rfl rfl (fun _ hq => by cases hq; exact Or.inl rfl) (fun I3 => ?_)
  refine S.aload_n 3 0 rfl rfl ?_
  refine S.qVI (d := 1) (av := []) (rs := []) (b := 81) 4 rfl co_X12_397 rfl rfl rfl rfl rfl ⟨⟨Nat.le_of_ble_eq_true rfl, Nat.le_of_ble_eq_true rfl⟩, ⟨Nat.le_of_ble_eq_true rfl, Nat.le_of_ble_eq_true rfl⟩, Nat.le_of_ble_eq_true rfl⟩ (cm_X12_canSearch b I3 J) (fun r4 => ?_)
  refine S.if_ne 15 5 rfl (by decide) (fun _ => ?_) (fun _ => ?_)
  · refine S.aload_n 8 0 rfl rfl ?_
    refine S.iconst (0 : Int32) 9 rfl (by decide) ?_
    refine S.aload_n 10 0 rfl rfl ?_
    refine S.getR 11 rfl fo_X12_70 rfl rfl rfl ?_
    refine S.cVV (d := 25) (av := [.int (0 : Int32), .ref 99]) (rs := [.ref 99, .int (0 : Int32)]) (b := 81) 12 rfl co_X12_389 rfl rfl rfl rfl rfl ⟨⟨Nat.le_of_ble_eq_true rfl, Nat.le_of_ble_eq_true rfl⟩, ⟨Nat.le_of_ble_eq_true rfl, Nat.le_of_ble_eq_true rfl⟩, Nat.le_of_ble_eq_true rfl⟩ (cm_X12_findGlow_99 b (0 : Int32) I3 J) (fun _ I5 J6 => ?_)
    refine S.iconst (0 : Int32) 13 rfl (by decide) ?_
    refine S.istore_n [(1, .int (0 : Int32)), (0, .ref 81)] 14 rfl (by decide) rfl ?_
    refine S.aload_n 15 1 rfl rfl ?_
    refine S.iconst (0 : Int32) 16 rfl (by decide) ?_
    refine S.putI 17 rfl fo_X12_162 rfl rfl rfl rfl (fun _ hq => by cases hq; exact Or.inl rfl) (fun I7 => ?_)
    refine S.iconst (1 : Int32) 18 rfl (by decide) ?_
    refine S.istore_n [(2, .int (1 : Int32)), (1, .int (0 : Int32)), (0, .ref 81)] 19 rfl (by decide) rfl ?_
    refine S.sub (lv' := [(0, .ref 81), (1, .int (0 : Int32)), (2, .int (1 : Int32))]) [2, 1, 0] rfl ?_
    refine s_X12_hidden_L33 b bgf _ _ _ _
  · refine S.bipush (-3 : Int32) 6 rfl (by decide) ?_
    exact S.iret 7 rfl rfl rfl (Nat.le_refl _) (Nat.le_refl _) rfl
def F_X12_alike (l1 : Int32) (l2 : Int32) (I : HI) (J : HJ) : Option (Int32 × HI × HJ) :=
  lb (ui I m_self f_Model_thrown (0 : Int32)) fun I3 =>
  cp (F_X12_isFault l1 I3 J) fun r4 =>
  if r4 = 0 then
    some ((-1 : Int32), I3, J)
  else
    cp (F_X12_isFault l2 I3 J) fun r5 =>
    if r5 = 0 then
      some ((-1 : Int32), I3, J)
    else
      cp (F_X12_canSearch I3 J) fun r6 =>
      if r6 = 0 then
        some ((-3 : Int32), I3, J)
      else
        cl (F_X12_findGlow_99 l1 I3 J) fun _ I7 J8 =>
        cl (F_X12_findGlow_113 l2 I7 J8) fun _ I9 J10 =>
        cp (F_X12_firstUnlike I9 J10) fun r11 =>
        if r11 = (-1 : Int32) then
          some ((1 : Int32), I9, J10)
        else
          lb (ui I9 m_self f_Model_rowMany (0 : Int32)) fun I12 =>
          cl (F_X12_tell (Int32.toInt64 r11) I12 J10) fun _ I13 J14 =>
          some ((0 : Int32), I13, J14)
set_option maxRecDepth 100000 in
theorem cm_X12_alike (b : Bool) (l1 : Int32) (l2 : Int32) (I : HI) (J : HJ) : CM mX12_alike 26 0 0 [.ref 81, .int l1, .int l2] (zs b, I, J) (fI (zs b)) (F_X12_alike l1 l2 I J) := by
  refine S.of okX12_alike pn_X12 (Nat.le_of_ble_eq_true rfl) ?_
  refine S.sub (lv' := [(0, .ref 81), (1, .int l1), (2, .int l2)]) [0, 1, 2] rfl ?_
  unfold F_X12_alike
  refine S.aload_n 0 0 rfl rfl ?_
  refine S.iconst (0 : Int32) 1 rfl (by decide) ?_
  refine S.putI 2 rfl fo_X12_159 rfl rfl rfl rfl (fun _ hq => by cases hq; exact Or.inl rfl) (fun I3 => ?_)
  refine S.aload_n 3 0 rfl rfl ?_
  refine S.iload_n 4 1 rfl rfl ?_
  refine S.qVI (d := 3) (av := [.int l1]) (rs := [.int l1]) (b := 81) 5 rfl co_X12_456 rfl rfl rfl rfl rfl ⟨⟨Nat.le_of_ble_eq_true rfl, Nat.le_of_ble_eq_true rfl⟩, ⟨Nat.le_of_ble_eq_true rfl, Nat.le_of_ble_eq_true rfl⟩, Nat.le_of_ble_eq_true rfl⟩ (cm_X12_isFault b l1 I3 J) (fun r4 => ?_)
  refine S.if_eq 21 6 rfl (by decide) (fun _ => ?_) (fun _ => ?_)
  · refine S.iconst (-1 : Int32) 11 rfl (by decide) ?_
    exact S.iret 12 rfl rfl rfl (Nat.le_refl _) (Nat.le_refl _) rfl
  · refine S.aload_n 7 0 rfl rfl ?_
    refine S.iload_n 8 2 rfl rfl ?_
    refine S.qVI (d := 3) (av := [.int l2]) (rs := [.int l2]) (b := 81) 9 rfl co_X12_456 rfl rfl rfl rfl rfl ⟨⟨Nat.le_of_ble_eq_true rfl, Nat.le_of_ble_eq_true rfl⟩, ⟨Nat.le_of_ble_eq_true rfl, Nat.le_of_ble_eq_true rfl⟩, Nat.le_of_ble_eq_true rfl⟩ (cm_X12_isFault b l2 I3 J) (fun r5 => ?_)
    refine S.if_ne 23 10 rfl (by decide) (fun _ => ?_) (fun _ => ?_)
    · refine S.aload_n 13 0 rfl rfl ?_
      refine S.qVI (d := 1) (av := []) (rs := []) (b := 81) 14 rfl co_X12_397 rfl rfl rfl rfl rfl ⟨⟨Nat.le_of_ble_eq_true rfl, Nat.le_of_ble_eq_true rfl⟩, ⟨Nat.le_of_ble_eq_true rfl, Nat.le_of_ble_eq_true rfl⟩, Nat.le_of_ble_eq_true rfl⟩ (cm_X12_canSearch b I3 J) (fun r6 => ?_)
      refine S.if_ne 33 15 rfl (by decide) (fun _ => ?_) (fun _ => ?_)
      · refine S.aload_n 18 0 rfl rfl ?_
        refine S.iload_n 19 1 rfl rfl ?_
        refine S.aload_n 20 0 rfl rfl ?_
        refine S.getR 21 rfl fo_X12_70 rfl rfl rfl ?_
        refine S.cVV (d := 25) (av := [.int l1, .ref 99]) (rs := [.ref 99, .int l1]) (b := 81) 22 rfl co_X12_389 rfl rfl rfl rfl rfl ⟨⟨Nat.le_of_ble_eq_true rfl, Nat.le_of_ble_eq_true rfl⟩, ⟨Nat.le_of_ble_eq_true rfl, Nat.le_of_ble_eq_true rfl⟩, Nat.le_of_ble_eq_true rfl⟩ (cm_X12_findGlow_99 b l1 I3 J) (fun _ I7 J8 => ?_)
        refine S.aload_n 23 0 rfl rfl ?_
        refine S.iload_n 24 2 rfl rfl ?_
        refine S.aload_n 25 0 rfl rfl ?_
        refine S.getR 26 rfl fo_X12_113 rfl rfl rfl ?_
        refine S.cVV (d := 25) (av := [.int l2, .ref 113]) (rs := [.ref 113, .int l2]) (b := 81) 27 rfl co_X12_389 rfl rfl rfl rfl rfl ⟨⟨Nat.le_of_ble_eq_true rfl, Nat.le_of_ble_eq_true rfl⟩, ⟨Nat.le_of_ble_eq_true rfl, Nat.le_of_ble_eq_true rfl⟩, Nat.le_of_ble_eq_true rfl⟩ (cm_X12_findGlow_113 b l2 I7 J8) (fun _ I9 J10 => ?_)
        refine S.aload_n 28 0 rfl rfl ?_
        refine S.qVI (d := 2) (av := []) (rs := []) (b := 81) 29 rfl co_X12_459 rfl rfl rfl rfl rfl ⟨⟨Nat.le_of_ble_eq_true rfl, Nat.le_of_ble_eq_true rfl⟩, ⟨Nat.le_of_ble_eq_true rfl, Nat.le_of_ble_eq_true rfl⟩, Nat.le_of_ble_eq_true rfl⟩ (cm_X12_firstUnlike b I9 J10) (fun r11 => ?_)
        refine S.istore_n [(3, .int r11), (0, .ref 81), (1, .int l1), (2, .int l2)] 30 rfl (by decide) rfl ?_
        refine S.iload_n 31 0 rfl rfl ?_
        refine S.iconst (-1 : Int32) 32 rfl (by decide) ?_
        refine S.icmp_ne 63 33 rfl (by decide) (fun _ => ?_) (fun _ => ?_)
        · refine S.aload_n 36 1 rfl rfl ?_
          refine S.iconst (0 : Int32) 37 rfl (by decide) ?_
          refine S.putI 38 rfl fo_X12_162 rfl rfl rfl rfl (fun _ hq => by cases hq; exact Or.inl rfl) (fun I12 => ?_)
          refine S.aload_n 39 1 rfl rfl ?_
          refine S.iload_n 40 0 rfl rfl ?_
          refine S.i2l 41 rfl ?_
          refine S.cVV (d := 1) (av := [.long (Int32.toInt64 r11)]) (rs := [.long (Int32.toInt64 r11)]) (b := 81) 42 rfl co_X12_371 rfl rfl rfl rfl rfl ⟨⟨Nat.le_of_ble_eq_true rfl, Nat.le_of_ble_eq_true rfl⟩, ⟨Nat.le_of_ble_eq_true rfl, Nat.le_of_ble_eq_true rfl⟩, Nat.le_of_ble_eq_true rfl⟩ (cm_X12_tell b (Int32.toInt64 r11) I12 J10) (fun _ I13 J14 => ?_)
          refine S.iconst (0 : Int32) 43 rfl (by decide) ?_
          exact S.iret 44 rfl rfl rfl (Nat.le_refl _) (Nat.le_refl _) rfl
        · refine S.iconst (1 : Int32) 34 rfl (by decide) ?_
          exact S.iret 35 rfl rfl rfl (Nat.le_refl _) (Nat.le_refl _) rfl
      · refine S.bipush (-3 : Int32) 16 rfl (by decide) ?_
        exact S.iret 17 rfl rfl rfl (Nat.le_refl _) (Nat.le_refl _) rfl
    · refine S.iconst (-1 : Int32) 11 rfl (by decide) ?_
      exact S.iret 12 rfl rfl rfl (Nat.le_refl _) (Nat.le_refl _) rfl
def F_X12_seen (l1 : Int32) (l2 : Int32) (l3 : Int64) (I : HI) (J : HJ) : Option (Int32 × HI × HJ) :=
  lb (ui I m_self f_Model_thrown (0 : Int32)) fun I6 =>
  cp (F_X12_isSetting l1 l2 I6 J) fun r7 =>
  if r7 = 0 then
    some ((-1 : Int32), I6, J)
  else
    cp (F_X12_areLamps l3 I6 J) fun r8 =>
    if r8 = 0 then
      some ((-1 : Int32), I6, J)
    else
      if (I6 m_self f_Model_seenMany) = (12 : Int32) then
        some ((-1 : Int32), I6, J)
      else
        bx (I6 m_self f_Model_seenMany) 12 <|
        lb (ui I6 m_seenHigh (Int32.toNatClampNeg (I6 m_self f_Model_seenMany)) l1) fun I9 =>
        bx (I9 m_self f_Model_seenMany) 12 <|
        lb (ui I9 m_seenLow (Int32.toNatClampNeg (I9 m_self f_Model_seenMany)) l2) fun I10 =>
        bx (I10 m_self f_Model_seenMany) 12 <|
        lb (uj J m_seenLamps (Int32.toNatClampNeg (I10 m_self f_Model_seenMany)) l3) fun J11 =>
        lb (ui I10 m_self f_Model_seenMany ((I10 m_self f_Model_seenMany) + (1 : Int32))) fun I12 =>
        some ((I12 m_self f_Model_seenMany), I12, J11)
set_option maxRecDepth 100000 in
theorem cm_X12_seen (b : Bool) (l1 : Int32) (l2 : Int32) (l3 : Int64) (I : HI) (J : HJ) : CM mX12_seen 3 0 0 [.ref 81, .int l1, .int l2, .long l3] (zs b, I, J) (fI (zs b)) (F_X12_seen l1 l2 l3 I J) := by
  refine S.of okX12_seen pn_X12 (Nat.le_of_ble_eq_true rfl) ?_
  refine S.sub (lv' := [(0, .ref 81), (1, .int l1), (2, .int l2), (3, .long l3)]) [0, 1, 2, 3] rfl ?_
  unfold F_X12_seen
  refine S.aload_n 0 0 rfl rfl ?_
  refine S.iconst (0 : Int32) 1 rfl (by decide) ?_
  refine S.putI 2 rfl fo_X12_159 rfl rfl rfl rfl (fun _ hq => by cases hq; exact Or.inl rfl) (fun I6 => ?_)
  refine S.aload_n 3 0 rfl rfl ?_
  refine S.iload_n 4 1 rfl rfl ?_
  refine S.iload_n 5 2 rfl rfl ?_
  refine S.qVI (d := 2) (av := [.int l1, .int l2]) (rs := [.int l2, .int l1]) (b := 81) 6 rfl co_X12_350 rfl rfl rfl rfl rfl ⟨⟨Nat.le_of_ble_eq_true rfl, Nat.le_of_ble_eq_true rfl⟩, ⟨Nat.le_of_ble_eq_true rfl, Nat.le_of_ble_eq_true rfl⟩, Nat.le_of_ble_eq_true rfl⟩ (cm_X12_isSetting b l1 l2 I6 J) (fun r7 => ?_)
  refine S.if_eq 31 7 rfl (by decide) (fun _ => ?_) (fun _ => ?_)
  · refine S.iconst (-1 : Int32) 16 rfl (by decide) ?_
    exact S.iret 17 rfl rfl rfl (Nat.le_refl _) (Nat.le_refl _) rfl
  · refine S.aload_n 8 0 rfl rfl ?_
    refine S.lload_n 9 3 rfl rfl ?_
    refine S.qVI (d := 2) (av := [.long l3]) (rs := [.long l3]) (b := 81) 10 rfl co_X12_393 rfl rfl rfl rfl rfl ⟨⟨Nat.le_of_ble_eq_true rfl, Nat.le_of_ble_eq_true rfl⟩, ⟨Nat.le_of_ble_eq_true rfl, Nat.le_of_ble_eq_true rfl⟩, Nat.le_of_ble_eq_true rfl⟩ (cm_X12_areLamps b l3 I6 J) (fun r8 => ?_)
    refine S.if_eq 31 11 rfl (by decide) (fun _ => ?_) (fun _ => ?_)
    · refine S.iconst (-1 : Int32) 16 rfl (by decide) ?_
      exact S.iret 17 rfl rfl rfl (Nat.le_refl _) (Nat.le_refl _) rfl
    · refine S.aload_n 12 0 rfl rfl ?_
      refine S.getI 13 rfl fo_X12_217 rfl rfl ?_
      refine S.bipush (12 : Int32) 14 rfl (by decide) ?_
      refine S.icmp_ne 33 15 rfl (by decide) (fun _ => ?_) (fun _ => ?_)
      · refine S.aload_n 18 0 rfl rfl ?_
        refine S.getR 19 rfl fo_X12_116 rfl rfl rfl ?_
        refine S.aload_n 20 0 rfl rfl ?_
        refine S.getI 21 rfl fo_X12_217 rfl rfl ?_
        refine S.iload_n 22 1 rfl rfl ?_
        refine S.iast 23 rfl rfl (fun I9 => ?_)
        refine S.aload_n 24 0 rfl rfl ?_
        refine S.getR 25 rfl fo_X12_119 rfl rfl rfl ?_
        refine S.aload_n 26 0 rfl rfl ?_
        refine S.getI 27 rfl fo_X12_217 rfl rfl ?_
        refine S.iload_n 28 2 rfl rfl ?_
        refine S.iast 29 rfl rfl (fun I10 => ?_)
        refine S.aload_n 30 0 rfl rfl ?_
        refine S.getR 31 rfl fo_X12_122 rfl rfl rfl ?_
        refine S.aload_n 32 0 rfl rfl ?_
        refine S.getI 33 rfl fo_X12_217 rfl rfl ?_
        refine S.lload_n 34 3 rfl rfl ?_
        refine S.last 35 rfl rfl (fun J11 => ?_)
        refine S.aload_n 36 0 rfl rfl ?_
        refine S.dup 37 rfl rfl ?_
        refine S.getI 38 rfl fo_X12_217 rfl rfl ?_
        refine S.iconst (1 : Int32) 39 rfl (by decide) ?_
        refine S.iadd 40 rfl ?_
        refine S.putI 41 rfl fo_X12_217 rfl rfl rfl rfl (fun _ hq => by cases hq; exact Or.inl rfl) (fun I12 => ?_)
        refine S.aload_n 42 0 rfl rfl ?_
        refine S.getI 43 rfl fo_X12_217 rfl rfl ?_
        exact S.iret 44 rfl rfl rfl (Nat.le_refl _) (Nat.le_refl _) rfl
      · refine S.iconst (-1 : Int32) 16 rfl (by decide) ?_
        exact S.iret 17 rfl rfl rfl (Nat.le_refl _) (Nat.le_refl _) rfl
def F_X12_forget  (I : HI) (J : HJ) : Option (Int32 × HI × HJ) :=
  lb (ui I m_self f_Model_thrown (0 : Int32)) fun I3 =>
  if (I3 m_self f_Model_seenMany) = 0 then
    some ((-1 : Int32), I3, J)
  else
    lb (ui I3 m_self f_Model_seenMany ((I3 m_self f_Model_seenMany) - (1 : Int32))) fun I4 =>
    some ((I4 m_self f_Model_seenMany), I4, J)
set_option maxRecDepth 100000 in
theorem cm_X12_forget (b : Bool)  (I : HI) (J : HJ) : CM mX12_forget 1 0 0 [.ref 81] (zs b, I, J) (fI (zs b)) (F_X12_forget  I J) := by
  refine S.of okX12_forget pn_X12 (Nat.le_of_ble_eq_true rfl) ?_
  refine S.sub (lv' := [(0, .ref 81)]) [0] rfl ?_
  unfold F_X12_forget
  refine S.aload_n 0 0 rfl rfl ?_
  refine S.iconst (0 : Int32) 1 rfl (by decide) ?_
  refine S.putI 2 rfl fo_X12_159 rfl rfl rfl rfl (fun _ hq => by cases hq; exact Or.inl rfl) (fun I3 => ?_)
  refine S.aload_n 3 0 rfl rfl ?_
  refine S.getI 4 rfl fo_X12_217 rfl rfl ?_
  refine S.if_ne 14 5 rfl (by decide) (fun _ => ?_) (fun _ => ?_)
  · refine S.aload_n 8 0 rfl rfl ?_
    refine S.dup 9 rfl rfl ?_
    refine S.getI 10 rfl fo_X12_217 rfl rfl ?_
    refine S.iconst (1 : Int32) 11 rfl (by decide) ?_
    refine S.isub 12 rfl ?_
    refine S.putI 13 rfl fo_X12_217 rfl rfl rfl rfl (fun _ hq => by cases hq; exact Or.inl rfl) (fun I4 => ?_)
    refine S.aload_n 14 0 rfl rfl ?_
    refine S.getI 15 rfl fo_X12_217 rfl rfl ?_
    exact S.iret 16 rfl rfl rfl (Nat.le_refl _) (Nat.le_refl _) rfl
  · refine S.iconst (-1 : Int32) 6 rfl (by decide) ?_
    exact S.iret 7 rfl rfl rfl (Nat.le_refl _) (Nat.le_refl _) rfl
def F_X12_bar_L7  : Nat → Int32 → HI → HJ → Option (Int32 × HI × HJ)
  | 0, _, _, _ => none
  | K+1, l2, I, J =>
    if (I m_self f_Model_seenMany) ≤ l2 then
      some ((-2 : Int32), I, J)
    else
      bx l2 12 <|
      bx l2 12 <|
      cl (F_X12_glowing (I m_seenHigh (Int32.toNatClampNeg l2)) (I m_seenLow (Int32.toNatClampNeg l2)) I J) fun r3 I4 J5 =>
      bx l2 12 <|
      if (lg_cmp r3 (J5 m_seenLamps (Int32.toNatClampNeg l2))) = 0 then
        F_X12_bar_L7 K (l2 + 1) I4 J5
      else
        some (l2, I4, J5)
set_option maxRecDepth 100000 in
theorem s_X12_bar_L7 (b : Bool)  : ∀ (K : Nat) (l2 : Int32) (I : HI) (J : HJ), S (fI (zs b)) mX12_bar (rmd 25 0 0) 0 0 (0, 0) 7 [(0, .ref 81), (2, .int l2)] [] (zs b, I, J) (F_X12_bar_L7 K l2 I J) := by
  intro K
  induction K with
  | zero => intro l2 I J; exact S.none
  | succ K ih =>
    intro l2 I J
    rw [F_X12_bar_L7]
    refine S.iload_n 5 1 rfl rfl ?_
    refine S.aload_n 6 0 rfl rfl ?_
    refine S.getI 7 rfl fo_X12_217 rfl rfl ?_
    refine S.icmp_ge 49 8 rfl (by decide) (fun _ => ?_) (fun _ => ?_)
    · refine S.bipush (-2 : Int32) 29 rfl (by decide) ?_
      exact S.iret 30 rfl rfl rfl (Nat.le_refl _) (Nat.le_refl _) rfl
    · refine S.aload_n 9 0 rfl rfl ?_
      refine S.aload_n 10 0 rfl rfl ?_
      refine S.getR 11 rfl fo_X12_116 rfl rfl rfl ?_
      refine S.iload_n 12 1 rfl rfl ?_
      refine S.iald 13 rfl rfl ?_
      refine S.aload_n 14 0 rfl rfl ?_
      refine S.getR 15 rfl fo_X12_119 rfl rfl rfl ?_
      refine S.iload_n 16 1 rfl rfl ?_
      refine S.iald 17 rfl rfl ?_
      refine S.cVL (d := 24) (av := [.int (I m_seenHigh (Int32.toNatClampNeg l2)), .int (I m_seenLow (Int32.toNatClampNeg l2))]) (rs := [.int (I m_seenLow (Int32.toNatClampNeg l2)), .int (I m_seenHigh (Int32.toNatClampNeg l2))]) (b := 81) 18 rfl co_X12_346 rfl rfl rfl rfl rfl ⟨⟨Nat.le_of_ble_eq_true rfl, Nat.le_of_ble_eq_true rfl⟩, ⟨Nat.le_of_ble_eq_true rfl, Nat.le_of_ble_eq_true rfl⟩, Nat.le_of_ble_eq_true rfl⟩ (cm_X12_glowing b (I m_seenHigh (Int32.toNatClampNeg l2)) (I m_seenLow (Int32.toNatClampNeg l2)) I J) (fun r3 I4 J5 => ?_)
      refine S.aload_n 19 0 rfl rfl ?_
      refine S.getR 20 rfl fo_X12_122 rfl rfl rfl ?_
      refine S.iload_n 21 1 rfl rfl ?_
      refine S.lald 22 rfl rfl ?_
      refine S.lcmp 23 rfl ?_
      refine S.if_eq 43 24 rfl (by decide) (fun _ => ?_) (fun _ => ?_)
      · refine S.iinc (l2 + 1) [(2, .int (l2 + 1)), (0, .ref 81)] 27 1 rfl rfl rfl (by decide) rfl ?_
        refine S.goto 7 28 rfl (by decide) ?_
        refine S.sub (lv' := [(0, .ref 81), (2, .int (l2 + 1))]) [1, 0] rfl ?_
        exact ih _ _ _
      · refine S.iload_n 25 1 rfl rfl ?_
        exact S.iret 26 rfl rfl rfl (Nat.le_refl _) (Nat.le_refl _) rfl
def F_X12_bar (l1 : Int32) (I : HI) (J : HJ) : Option (Int32 × HI × HJ) :=
  cl (F_X12_lay l1 I J) fun _ I1 J2 =>
  F_X12_bar_L7 bgf (0 : Int32) I1 J2
set_option maxRecDepth 100000 in
theorem cm_X12_bar (b : Bool) (l1 : Int32) (I : HI) (J : HJ) : CM mX12_bar 25 0 0 [.ref 81, .int l1] (zs b, I, J) (fI (zs b)) (F_X12_bar l1 I J) := by
  refine S.of okX12_bar pn_X12 (Nat.le_of_ble_eq_true rfl) ?_
  refine S.sub (lv' := [(0, .ref 81), (1, .int l1)]) [0, 1] rfl ?_
  unfold F_X12_bar
  refine S.aload_n 0 0 rfl rfl ?_
  refine S.iload_n 1 1 rfl rfl ?_
  refine S.cVV (d := 4) (av := [.int l1]) (rs := [.int l1]) (b := 81) 2 rfl co_X12_343 rfl rfl rfl rfl rfl ⟨⟨Nat.le_of_ble_eq_true rfl, Nat.le_of_ble_eq_true rfl⟩, ⟨Nat.le_of_ble_eq_true rfl, Nat.le_of_ble_eq_true rfl⟩, Nat.le_of_ble_eq_true rfl⟩ (cm_X12_lay b l1 I J) (fun _ I1 J2 => ?_)
  refine S.iconst (0 : Int32) 3 rfl (by decide) ?_
  refine S.istore_n [(2, .int (0 : Int32)), (0, .ref 81), (1, .int l1)] 4 rfl (by decide) rfl ?_
  refine S.sub (lv' := [(0, .ref 81), (2, .int (0 : Int32))]) [1, 0] rfl ?_
  refine s_X12_bar_L7 b bgf _ _ _
def F_X12_findAgreed_L7  : Nat → Int32 → HI → HJ → Option (Unit × HI × HJ)
  | 0, _, _, _ => none
  | K+1, l1, I, J =>
    cp (F_X12_faultMany I J) fun r5 =>
    if r5 ≤ l1 then
      some ((), I, J)
    else
      cl (F_X12_bar l1 I J) fun r6 I7 J8 =>
      lb (fun (I9 : HI) =>
      F_X12_findAgreed_L7 K (l1 + 1) I9 J8) fun j10 =>
      if r6 = (-2 : Int32) then
        bx (I7 m_self f_Model_agreeMany) 116 <|
        lb (ui I7 m_agreed (Int32.toNatClampNeg (I7 m_self f_Model_agreeMany)) l1) fun I11 =>
        lb (ui I11 m_self f_Model_agreeMany ((I11 m_self f_Model_agreeMany) + (1 : Int32))) fun I12 =>
        j10 I12
      else
        j10 I7
set_option maxRecDepth 100000 in
theorem s_X12_findAgreed_L7 (b : Bool)  : ∀ (K : Nat) (l1 : Int32) (I : HI) (J : HJ), S (fV (zs b)) mX12_findAgreed (rmd 26 0 0) 0 0 (0, 0) 7 [(0, .ref 81), (1, .int l1)] [] (zs b, I, J) (F_X12_findAgreed_L7 K l1 I J) := by
  intro K
  induction K with
  | zero => intro l1 I J; exact S.none
  | succ K ih =>
    intro l1 I J
    rw [F_X12_findAgreed_L7]
    refine S.iload_n 5 1 rfl rfl ?_
    refine S.aload_n 6 0 rfl rfl ?_
    refine S.qVI (d := 2) (av := []) (rs := []) (b := 81) 7 rfl co_X12_260 rfl rfl rfl rfl rfl ⟨⟨Nat.le_of_ble_eq_true rfl, Nat.le_of_ble_eq_true rfl⟩, ⟨Nat.le_of_ble_eq_true rfl, Nat.le_of_ble_eq_true rfl⟩, Nat.le_of_ble_eq_true rfl⟩ (cm_X12_faultMany b I J) (fun r5 => ?_)
    refine S.icmp_ge 54 8 rfl (by decide) (fun _ => ?_) (fun _ => ?_)
    · exact S.vret 29 rfl rfl (Nat.le_refl _) (Nat.le_refl _) rfl
    · refine S.aload_n 9 0 rfl rfl ?_
      refine S.iload_n 10 1 rfl rfl ?_
      refine S.cVI (d := 25) (av := [.int l1]) (rs := [.int l1]) (b := 81) 11 rfl co_X12_465 rfl rfl rfl rfl rfl ⟨⟨Nat.le_of_ble_eq_true rfl, Nat.le_of_ble_eq_true rfl⟩, ⟨Nat.le_of_ble_eq_true rfl, Nat.le_of_ble_eq_true rfl⟩, Nat.le_of_ble_eq_true rfl⟩ (cm_X12_bar b l1 I J) (fun r6 I7 J8 => ?_)
      refine S.bipush (-2 : Int32) 12 rfl (by decide) ?_
      refine S.jn (fun j => ∀ (I9 : HI), S (fV (zs b)) mX12_findAgreed (rmd 26 0 0) 0 0 (0, 0) 48 [(0, .ref 81), (1, .int l1)] [] (zs b, I9, J8) (j I9)) (fun I9 => ?_) (fun j10 hj10 => ?_)
      · refine S.iinc (l1 + 1) [(1, .int (l1 + 1)), (0, .ref 81)] 27 1 rfl rfl rfl (by decide) rfl ?_
        refine S.goto 7 28 rfl (by decide) ?_
        refine S.sub (lv' := [(0, .ref 81), (1, .int (l1 + 1))]) [1, 0] rfl ?_
        exact ih _ _ _
      · refine S.icmp_eq 28 13 rfl (by decide) (fun _ => ?_) (fun _ => ?_)
        · refine S.aload_n 15 0 rfl rfl ?_
          refine S.getR 16 rfl fo_X12_125 rfl rfl rfl ?_
          refine S.aload_n 17 0 rfl rfl ?_
          refine S.getI 18 rfl fo_X12_462 rfl rfl ?_
          refine S.iload_n 19 1 rfl rfl ?_
          refine S.iast 20 rfl rfl (fun I11 => ?_)
          refine S.aload_n 21 0 rfl rfl ?_
          refine S.dup 22 rfl rfl ?_
          refine S.getI 23 rfl fo_X12_462 rfl rfl ?_
          refine S.iconst (1 : Int32) 24 rfl (by decide) ?_
          refine S.iadd 25 rfl ?_
          refine S.putI 26 rfl fo_X12_462 rfl rfl rfl rfl (fun _ hq => by cases hq; exact Or.inl rfl) (fun I12 => ?_)
          exact hj10 _
        · refine S.goto 48 14 rfl (by decide) ?_
          exact hj10 _
def F_X12_findAgreed  (I : HI) (J : HJ) : Option (Unit × HI × HJ) :=
  lb (ui I m_self f_Model_agreeMany (0 : Int32)) fun I4 =>
  F_X12_findAgreed_L7 bgf (0 : Int32) I4 J
set_option maxRecDepth 100000 in
theorem cm_X12_findAgreed (b : Bool)  (I : HI) (J : HJ) : CM mX12_findAgreed 26 0 0 [.ref 81] (zs b, I, J) (fV (zs b)) (F_X12_findAgreed  I J) := by
  refine S.of okX12_findAgreed pn_X12 (Nat.le_of_ble_eq_true rfl) ?_
  refine S.sub (lv' := [(0, .ref 81)]) [0] rfl ?_
  unfold F_X12_findAgreed
  refine S.aload_n 0 0 rfl rfl ?_
  refine S.iconst (0 : Int32) 1 rfl (by decide) ?_
  refine S.putI 2 rfl fo_X12_462 rfl rfl rfl rfl (fun _ hq => by cases hq; exact Or.inl rfl) (fun I4 => ?_)
  refine S.iconst (0 : Int32) 3 rfl (by decide) ?_
  refine S.istore_n [(1, .int (0 : Int32)), (0, .ref 81)] 4 rfl (by decide) rfl ?_
  refine S.sub (lv' := [(0, .ref 81), (1, .int (0 : Int32))]) [1, 0] rfl ?_
  refine s_X12_findAgreed_L7 b bgf _ _ _
def F_X12_which_L16 (kx47 : HI → HJ → Option (Int32 × HI × HJ)) : Nat → Int32 → HI → HJ → Option (Int32 × HI × HJ)
  | 0, _, _, _ => none
  | K+1, l1, I, J =>
    if (I m_self f_Model_agreeMany) ≤ l1 then
      kx47 I J
    else
      if (8 : Int32) ≤ l1 then
        kx47 I J
      else
        bx l1 116 <|
        cl (F_X12_tell (Int32.toInt64 (I m_agreed (Int32.toNatClampNeg l1))) I J) fun _ I7 J8 =>
        F_X12_which_L16 kx47 K (l1 + 1) I7 J8
set_option maxRecDepth 100000 in
theorem s_X12_which_L16 (b : Bool) (kx47 : HI → HJ → Option (Int32 × HI × HJ)) (hkx47 : ∀ (I1 : HI) (J1 : HJ), S (fI (zs b)) mX12_which (rmd 27 0 0) 0 0 (0, 0) 47 [(0, .ref 81)] [] (zs b, I1, J1) (kx47 I1 J1)) : ∀ (K : Nat) (l1 : Int32) (I : HI) (J : HJ), S (fI (zs b)) mX12_which (rmd 27 0 0) 0 0 (0, 0) 16 [(0, .ref 81), (1, .int l1)] [] (zs b, I, J) (F_X12_which_L16 kx47 K l1 I J) := by
  intro K
  induction K with
  | zero => intro l1 I J; exact S.none
  | succ K ih =>
    intro l1 I J
    rw [F_X12_which_L16]
    refine S.iload_n 10 1 rfl rfl ?_
    refine S.aload_n 11 0 rfl rfl ?_
    refine S.getI 12 rfl fo_X12_462 rfl rfl ?_
    refine S.icmp_ge 47 13 rfl (by decide) (fun _ => ?_) (fun _ => ?_)
    · refine S.sub (lv' := [(0, .ref 81)]) [0] rfl ?_
      exact hkx47 _ _
    · refine S.iload_n 14 1 rfl rfl ?_
      refine S.bipush (8 : Int32) 15 rfl (by decide) ?_
      refine S.icmp_ge 47 16 rfl (by decide) (fun _ => ?_) (fun _ => ?_)
      · refine S.sub (lv' := [(0, .ref 81)]) [0] rfl ?_
        exact hkx47 _ _
      · refine S.aload_n 17 0 rfl rfl ?_
        refine S.aload_n 18 0 rfl rfl ?_
        refine S.getR 19 rfl fo_X12_125 rfl rfl rfl ?_
        refine S.iload_n 20 1 rfl rfl ?_
        refine S.iald 21 rfl rfl ?_
        refine S.i2l 22 rfl ?_
        refine S.cVV (d := 1) (av := [.long (Int32.toInt64 (I m_agreed (Int32.toNatClampNeg l1)))]) (rs := [.long (Int32.toInt64 (I m_agreed (Int32.toNatClampNeg l1)))]) (b := 81) 23 rfl co_X12_371 rfl rfl rfl rfl rfl ⟨⟨Nat.le_of_ble_eq_true rfl, Nat.le_of_ble_eq_true rfl⟩, ⟨Nat.le_of_ble_eq_true rfl, Nat.le_of_ble_eq_true rfl⟩, Nat.le_of_ble_eq_true rfl⟩ (cm_X12_tell b (Int32.toInt64 (I m_agreed (Int32.toNatClampNeg l1))) I J) (fun _ I7 J8 => ?_)
        refine S.iinc (l1 + 1) [(1, .int (l1 + 1)), (0, .ref 81)] 24 1 rfl rfl rfl (by decide) rfl ?_
        refine S.goto 16 25 rfl (by decide) ?_
        refine S.sub (lv' := [(0, .ref 81), (1, .int (l1 + 1))]) [1, 0] rfl ?_
        exact ih _ _ _
def F_X12_which  (I : HI) (J : HJ) : Option (Int32 × HI × HJ) :=
  lb (ui I m_self f_Model_thrown (0 : Int32)) fun I3 =>
  cl (F_X12_findAgreed I3 J) fun _ I4 J5 =>
  lb (ui I4 m_self f_Model_rowMany (0 : Int32)) fun I6 =>
  F_X12_which_L16 (fun (I9 : HI) (J10 : HJ) =>
  some ((I9 m_self f_Model_agreeMany), I9, J10)) bgf (0 : Int32) I6 J5
set_option maxRecDepth 100000 in
theorem cm_X12_which (b : Bool)  (I : HI) (J : HJ) : CM mX12_which 27 0 0 [.ref 81] (zs b, I, J) (fI (zs b)) (F_X12_which  I J) := by
  refine S.of okX12_which pn_X12 (Nat.le_of_ble_eq_true rfl) ?_
  refine S.sub (lv' := [(0, .ref 81)]) [0] rfl ?_
  unfold F_X12_which
  refine S.aload_n 0 0 rfl rfl ?_
  refine S.iconst (0 : Int32) 1 rfl (by decide) ?_
  refine S.putI 2 rfl fo_X12_159 rfl rfl rfl rfl (fun _ hq => by cases hq; exact Or.inl rfl) (fun I3 => ?_)
  refine S.aload_n 3 0 rfl rfl ?_
  refine S.cVV (d := 26) (av := []) (rs := []) (b := 81) 4 rfl co_X12_468 rfl rfl rfl rfl rfl ⟨⟨Nat.le_of_ble_eq_true rfl, Nat.le_of_ble_eq_true rfl⟩, ⟨Nat.le_of_ble_eq_true rfl, Nat.le_of_ble_eq_true rfl⟩, Nat.le_of_ble_eq_true rfl⟩ (cm_X12_findAgreed b I3 J) (fun _ I4 J5 => ?_)
  refine S.aload_n 5 0 rfl rfl ?_
  refine S.iconst (0 : Int32) 6 rfl (by decide) ?_
  refine S.putI 7 rfl fo_X12_162 rfl rfl rfl rfl (fun _ hq => by cases hq; exact Or.inl rfl) (fun I6 => ?_)
  refine S.iconst (0 : Int32) 8 rfl (by decide) ?_
  refine S.istore_n [(1, .int (0 : Int32)), (0, .ref 81)] 9 rfl (by decide) rfl ?_
  refine S.sub (lv' := [(0, .ref 81), (1, .int (0 : Int32))]) [1, 0] rfl ?_
  refine s_X12_which_L16 b _ (fun I9 J10 => ?_) bgf _ _ _
  refine S.aload_n 26 0 rfl rfl ?_
  refine S.getI 27 rfl fo_X12_462 rfl rfl ?_
  exact S.iret 28 rfl rfl rfl (Nat.le_refl _) (Nat.le_refl _) rfl
def F_X12_judge (l1 : Int32) (I : HI) (J : HJ) : Option (Int32 × HI × HJ) :=
  lb (ui I m_self f_Model_thrown (0 : Int32)) fun I2 =>
  cp (F_X12_isFault l1 I2 J) fun r3 =>
  if r3 = 0 then
    some ((-1 : Int32), I2, J)
  else
    cl (F_X12_bar l1 I2 J) fun r4 I5 J6 =>
    some (r4, I5, J6)
set_option maxRecDepth 100000 in
theorem cm_X12_judge (b : Bool) (l1 : Int32) (I : HI) (J : HJ) : CM mX12_judge 26 0 0 [.ref 81, .int l1] (zs b, I, J) (fI (zs b)) (F_X12_judge l1 I J) := by
  refine S.of okX12_judge pn_X12 (Nat.le_of_ble_eq_true rfl) ?_
  refine S.sub (lv' := [(0, .ref 81), (1, .int l1)]) [0, 1] rfl ?_
  unfold F_X12_judge
  refine S.aload_n 0 0 rfl rfl ?_
  refine S.iconst (0 : Int32) 1 rfl (by decide) ?_
  refine S.putI 2 rfl fo_X12_159 rfl rfl rfl rfl (fun _ hq => by cases hq; exact Or.inl rfl) (fun I2 => ?_)
  refine S.aload_n 3 0 rfl rfl ?_
  refine S.iload_n 4 1 rfl rfl ?_
  refine S.qVI (d := 3) (av := [.int l1]) (rs := [.int l1]) (b := 81) 5 rfl co_X12_456 rfl rfl rfl rfl rfl ⟨⟨Nat.le_of_ble_eq_true rfl, Nat.le_of_ble_eq_true rfl⟩, ⟨Nat.le_of_ble_eq_true rfl, Nat.le_of_ble_eq_true rfl⟩, Nat.le_of_ble_eq_true rfl⟩ (cm_X12_isFault b l1 I2 J) (fun r3 => ?_)
  refine S.if_eq 21 6 rfl (by decide) (fun _ => ?_) (fun _ => ?_)
  · refine S.iconst (-1 : Int32) 11 rfl (by decide) ?_
    exact S.iret 12 rfl rfl rfl (Nat.le_refl _) (Nat.le_refl _) rfl
  · refine S.aload_n 7 0 rfl rfl ?_
    refine S.iload_n 8 1 rfl rfl ?_
    refine S.cVI (d := 25) (av := [.int l1]) (rs := [.int l1]) (b := 81) 9 rfl co_X12_465 rfl rfl rfl rfl rfl ⟨⟨Nat.le_of_ble_eq_true rfl, Nat.le_of_ble_eq_true rfl⟩, ⟨Nat.le_of_ble_eq_true rfl, Nat.le_of_ble_eq_true rfl⟩, Nat.le_of_ble_eq_true rfl⟩ (cm_X12_bar b l1 I2 J) (fun r4 I5 J6 => ?_)
    refine S.goto 22 10 rfl (by decide) ?_
    exact S.iret 12 rfl rfl rfl (Nat.le_refl _) (Nat.le_refl _) rfl
def F_X12_next_L60 (l1 : Int32) (l2 : Int32) (I : HI) (kx88 : HJ → Option (Int32 × HI × HJ)) : Nat → Int32 → HJ → Option (Int32 × HI × HJ)
  | 0, _, _ => none
  | K+1, l3, J =>
    if l1 ≤ l3 then
      kx88 J
    else
      bx l3 2187 <|
      bx (((116 : Int32) * l3) + l2) 253692 <|
      lb (uj J m_glowAll (Int32.toNatClampNeg (((116 : Int32) * l3) + l2)) (J m_glow (Int32.toNatClampNeg l3))) fun J13 =>
      F_X12_next_L60 l1 l2 I kx88 K (l3 + 1) J13
set_option maxRecDepth 100000 in
theorem s_X12_next_L60 (b : Bool) (l1 : Int32) (l2 : Int32) (I : HI) (kx88 : HJ → Option (Int32 × HI × HJ)) (hkx88 : ∀ (J1 : HJ), S (fI (zs b)) mX12_next (rmd 27 0 0) 0 0 (0, 0) 88 [(0, .ref 81), (1, .int l1), (2, .int l2)] [] (zs b, I, J1) (kx88 J1)) : ∀ (K : Nat) (l3 : Int32) (J : HJ), S (fI (zs b)) mX12_next (rmd 27 0 0) 0 0 (0, 0) 60 [(0, .ref 81), (1, .int l1), (2, .int l2), (3, .int l3)] [] (zs b, I, J) (F_X12_next_L60 l1 l2 I kx88 K l3 J) := by
  intro K
  induction K with
  | zero => intro l3 J; exact S.none
  | succ K ih =>
    intro l3 J
    rw [F_X12_next_L60]
    refine S.iload_n 34 3 rfl rfl ?_
    refine S.iload_n 35 1 rfl rfl ?_
    refine S.icmp_ge 88 36 rfl (by decide) (fun _ => ?_) (fun _ => ?_)
    · refine S.sub (lv' := [(0, .ref 81), (1, .int l1), (2, .int l2)]) [0, 1, 2] rfl ?_
      exact hkx88 _
    · refine S.aload_n 37 0 rfl rfl ?_
      refine S.getR 38 rfl fo_X12_129 rfl rfl rfl ?_
      refine S.bipush (116 : Int32) 39 rfl (by decide) ?_
      refine S.iload_n 40 3 rfl rfl ?_
      refine S.imul 41 rfl ?_
      refine S.iload_n 42 2 rfl rfl ?_
      refine S.iadd 43 rfl ?_
      refine S.aload_n 44 0 rfl rfl ?_
      refine S.getR 45 rfl fo_X12_70 rfl rfl rfl ?_
      refine S.iload_n 46 3 rfl rfl ?_
      refine S.lald 47 rfl rfl ?_
      refine S.last 48 rfl rfl (fun J13 => ?_)
      refine S.iinc (l3 + 1) [(3, .int (l3 + 1)), (0, .ref 81), (1, .int l1), (2, .int l2)] 49 3 rfl rfl rfl (by decide) rfl ?_
      refine S.goto 60 50 rfl (by decide) ?_
      refine S.sub (lv' := [(0, .ref 81), (1, .int l1), (2, .int l2), (3, .int (l3 + 1))]) [1, 2, 3, 0] rfl ?_
      exact ih _ _
def F_X12_next_L36 (l1 : Int32) (kx94 : HI → HJ → Option (Int32 × HI × HJ)) : Nat → Int32 → HI → HJ → Option (Int32 × HI × HJ)
  | 0, _, _, _ => none
  | K+1, l2, I, J =>
    if (I m_self f_Model_agreeMany) ≤ l2 then
      kx94 I J
    else
      bx l2 116 <|
      cl (F_X12_findGlow_99 (I m_agreed (Int32.toNatClampNeg l2)) I J) fun _ I11 J12 =>
      F_X12_next_L60 l1 l2 I11 (fun (J14 : HJ) =>
      F_X12_next_L36 l1 kx94 K (l2 + 1) I11 J14) bgf (0 : Int32) J12
set_option maxRecDepth 100000 in
theorem s_X12_next_L36 (b : Bool) (l1 : Int32) (kx94 : HI → HJ → Option (Int32 × HI × HJ)) (hkx94 : ∀ (I1 : HI) (J1 : HJ), S (fI (zs b)) mX12_next (rmd 27 0 0) 0 0 (0, 0) 94 [(0, .ref 81), (1, .int l1)] [] (zs b, I1, J1) (kx94 I1 J1)) : ∀ (K : Nat) (l2 : Int32) (I : HI) (J : HJ), S (fI (zs b)) mX12_next (rmd 27 0 0) 0 0 (0, 0) 36 [(0, .ref 81), (1, .int l1), (2, .int l2)] [] (zs b, I, J) (F_X12_next_L36 l1 kx94 K l2 I J) := by
  intro K
  induction K with
  | zero => intro l2 I J; exact S.none
  | succ K ih =>
    intro l2 I J
    rw [F_X12_next_L36]
    refine S.iload_n 20 2 rfl rfl ?_
    refine S.aload_n 21 0 rfl rfl ?_
    refine S.getI 22 rfl fo_X12_462 rfl rfl ?_
    refine S.icmp_ge 94 23 rfl (by decide) (fun _ => ?_) (fun _ => ?_)
    · refine S.sub (lv' := [(0, .ref 81), (1, .int l1)]) [0, 1] rfl ?_
      exact hkx94 _ _
    · refine S.aload_n 24 0 rfl rfl ?_
      refine S.aload_n 25 0 rfl rfl ?_
      refine S.getR 26 rfl fo_X12_125 rfl rfl rfl ?_
      refine S.iload_n 27 2 rfl rfl ?_
      refine S.iald 28 rfl rfl ?_
      refine S.aload_n 29 0 rfl rfl ?_
      refine S.getR 30 rfl fo_X12_70 rfl rfl rfl ?_
      refine S.cVV (d := 25) (av := [.int (I m_agreed (Int32.toNatClampNeg l2)), .ref 99]) (rs := [.ref 99, .int (I m_agreed (Int32.toNatClampNeg l2))]) (b := 81) 31 rfl co_X12_389 rfl rfl rfl rfl rfl ⟨⟨Nat.le_of_ble_eq_true rfl, Nat.le_of_ble_eq_true rfl⟩, ⟨Nat.le_of_ble_eq_true rfl, Nat.le_of_ble_eq_true rfl⟩, Nat.le_of_ble_eq_true rfl⟩ (cm_X12_findGlow_99 b (I m_agreed (Int32.toNatClampNeg l2)) I J) (fun _ I11 J12 => ?_)
      refine S.iconst (0 : Int32) 32 rfl (by decide) ?_
      refine S.istore_n [(3, .int (0 : Int32)), (0, .ref 81), (1, .int l1), (2, .int l2)] 33 rfl (by decide) rfl ?_
      refine S.sub (lv' := [(0, .ref 81), (1, .int l1), (2, .int l2), (3, .int (0 : Int32))]) [1, 2, 3, 0] rfl ?_
      refine s_X12_next_L60 b _ _ _ _ (fun J14 => ?_) bgf _ _
      refine S.iinc (l2 + 1) [(2, .int (l2 + 1)), (0, .ref 81), (1, .int l1)] 51 2 rfl rfl rfl (by decide) rfl ?_
      refine S.goto 36 52 rfl (by decide) ?_
      refine S.sub (lv' := [(0, .ref 81), (1, .int l1), (2, .int (l2 + 1))]) [1, 2, 0] rfl ?_
      exact ih _ _ _
def F_X12_next_L128 (l1 : Int32) (l2 : Int32) (l3 : Int32) (l4 : Int32) (l5 : Int32) (l6 : Int32) (I : HI) (J : HJ) (kx183 : Int32 → Option (Int32 × HI × HJ)) : Nat → Int32 → Int32 → Option (Int32 × HI × HJ)
  | 0, _, _ => none
  | K+1, l7, l8 =>
    if (I m_self f_Model_agreeMany) ≤ l8 then
      kx183 l7
    else
      bx (((116 : Int32) * l4) + l8) 253692 <|
      bx (((116 : Int32) * l4) + l6) 253692 <|
      lb (fun (y17 : Int32) (y18 : Int32) =>
      lb ((y17 + y18)) fun x20 =>
      F_X12_next_L128 l1 l2 l3 l4 l5 l6 I J kx183 K x20 (l8 + 1)) fun j19 =>
      if (lg_cmp (J m_glowAll (Int32.toNatClampNeg (((116 : Int32) * l4) + l8))) (J m_glowAll (Int32.toNatClampNeg (((116 : Int32) * l4) + l6)))) = 0 then
        j19 l7 (1 : Int32)
      else
        j19 l7 (0 : Int32)
set_option maxRecDepth 100000 in
theorem s_X12_next_L128 (b : Bool) (l1 : Int32) (l2 : Int32) (l3 : Int32) (l4 : Int32) (l5 : Int32) (l6 : Int32) (I : HI) (J : HJ) (kx183 : Int32 → Option (Int32 × HI × HJ)) (hkx183 : ∀ (y7 : Int32), S (fI (zs b)) mX12_next (rmd 27 0 0) 0 0 (0, 0) 183 [(0, .ref 81), (1, .int l1), (2, .int l2), (3, .int l3), (4, .int l4), (5, .int l5), (6, .int l6), (7, .int y7)] [] (zs b, I, J) (kx183 y7)) : ∀ (K : Nat) (l7 : Int32) (l8 : Int32), S (fI (zs b)) mX12_next (rmd 27 0 0) 0 0 (0, 0) 128 [(0, .ref 81), (1, .int l1), (2, .int l2), (3, .int l3), (4, .int l4), (5, .int l5), (6, .int l6), (7, .int l7), (8, .int l8)] [] (zs b, I, J) (F_X12_next_L128 l1 l2 l3 l4 l5 l6 I J kx183 K l7 l8) := by
  intro K
  induction K with
  | zero => intro l7 l8; exact S.none
  | succ K ih =>
    intro l7 l8
    rw [F_X12_next_L128]
    refine S.iload 74 8 rfl rfl ?_
    refine S.aload_n 75 0 rfl rfl ?_
    refine S.getI 76 rfl fo_X12_462 rfl rfl ?_
    refine S.icmp_ge 183 77 rfl (by decide) (fun _ => ?_) (fun _ => ?_)
    · refine S.sub (lv' := [(0, .ref 81), (1, .int l1), (2, .int l2), (3, .int l3), (4, .int l4), (5, .int l5), (6, .int l6), (7, .int l7)]) [0, 1, 2, 3, 4, 5, 6, 7] rfl ?_
      exact hkx183 _
    · refine S.iload 78 7 rfl rfl ?_
      refine S.aload_n 79 0 rfl rfl ?_
      refine S.getR 80 rfl fo_X12_129 rfl rfl rfl ?_
      refine S.bipush (116 : Int32) 81 rfl (by decide) ?_
      refine S.iload 82 4 rfl rfl ?_
      refine S.imul 83 rfl ?_
      refine S.iload 84 8 rfl rfl ?_
      refine S.iadd 85 rfl ?_
      refine S.lald 86 rfl rfl ?_
      refine S.aload_n 87 0 rfl rfl ?_
      refine S.getR 88 rfl fo_X12_129 rfl rfl rfl ?_
      refine S.bipush (116 : Int32) 89 rfl (by decide) ?_
      refine S.iload 90 4 rfl rfl ?_
      refine S.imul 91 rfl ?_
      refine S.iload 92 6 rfl rfl ?_
      refine S.iadd 93 rfl ?_
      refine S.lald 94 rfl rfl ?_
      refine S.lcmp 95 rfl ?_
      refine S.jn (fun j => ∀ (y17 : Int32) (y18 : Int32), S (fI (zs b)) mX12_next (rmd 27 0 0) 0 0 (0, 0) 174 [(0, .ref 81), (1, .int l1), (2, .int l2), (3, .int l3), (4, .int l4), (5, .int l5), (6, .int l6), (8, .int l8)] [.int y18, .int y17] (zs b, I, J) (j y17 y18)) (fun y17 y18 => ?_) (fun j19 hj19 => ?_)
      · refine S.iadd 100 rfl ?_
        refine S.nmi (fun x20 => ?_)
        refine S.istore [(7, .int x20), (0, .ref 81), (1, .int l1), (2, .int l2), (3, .int l3), (4, .int l4), (5, .int l5), (6, .int l6), (8, .int l8)] 101 rfl (by decide) rfl ?_
        refine S.iinc (l8 + 1) [(8, .int (l8 + 1)), (7, .int x20), (0, .ref 81), (1, .int l1), (2, .int l2), (3, .int l3), (4, .int l4), (5, .int l5), (6, .int l6)] 102 8 rfl rfl rfl (by decide) rfl ?_
        refine S.goto 128 103 rfl (by decide) ?_
        refine S.sub (lv' := [(0, .ref 81), (1, .int l1), (2, .int l2), (3, .int l3), (4, .int l4), (5, .int l5), (6, .int l6), (7, .int x20), (8, .int (l8 + 1))]) [2, 3, 4, 5, 6, 7, 8, 1, 0] rfl ?_
        exact ih _ _
      · refine S.if_ne 173 96 rfl (by decide) (fun _ => ?_) (fun _ => ?_)
        · refine S.iconst (0 : Int32) 99 rfl (by decide) ?_
          refine S.sub (lv' := [(0, .ref 81), (1, .int l1), (2, .int l2), (3, .int l3), (4, .int l4), (5, .int l5), (6, .int l6), (8, .int l8)]) [0, 1, 2, 3, 4, 5, 6, 8] rfl ?_
          exact hj19 _ _
        · refine S.iconst (1 : Int32) 97 rfl (by decide) ?_
          refine S.goto 174 98 rfl (by decide) ?_
          refine S.sub (lv' := [(0, .ref 81), (1, .int l1), (2, .int l2), (3, .int l3), (4, .int l4), (5, .int l5), (6, .int l6), (8, .int l8)]) [0, 1, 2, 3, 4, 5, 6, 8] rfl ?_
          exact hj19 _ _
def F_X12_next_L113 (l1 : Int32) (l2 : Int32) (l3 : Int32) (l4 : Int32) (I : HI) (J : HJ) (kx198 : Int32 → Option (Int32 × HI × HJ)) : Nat → Int32 → Int32 → Option (Int32 × HI × HJ)
  | 0, _, _ => none
  | K+1, l5, l6 =>
    if (I m_self f_Model_agreeMany) ≤ l6 then
      kx198 l5
    else
      F_X12_next_L128 l1 l2 l3 l4 l5 l6 I J (fun (y21 : Int32) =>
      lb ((omax l5 y21)) fun x22 =>
      F_X12_next_L113 l1 l2 l3 l4 I J kx198 K x22 (l6 + 1)) bgf (0 : Int32) (0 : Int32)
set_option maxRecDepth 100000 in
theorem s_X12_next_L113 (b : Bool) (l1 : Int32) (l2 : Int32) (l3 : Int32) (l4 : Int32) (I : HI) (J : HJ) (kx198 : Int32 → Option (Int32 × HI × HJ)) (hkx198 : ∀ (y5 : Int32), S (fI (zs b)) mX12_next (rmd 27 0 0) 0 0 (0, 0) 198 [(0, .ref 81), (1, .int l1), (2, .int l2), (3, .int l3), (4, .int l4), (5, .int y5)] [] (zs b, I, J) (kx198 y5)) : ∀ (K : Nat) (l5 : Int32) (l6 : Int32), S (fI (zs b)) mX12_next (rmd 27 0 0) 0 0 (0, 0) 113 [(0, .ref 81), (1, .int l1), (2, .int l2), (3, .int l3), (4, .int l4), (5, .int l5), (6, .int l6)] [] (zs b, I, J) (F_X12_next_L113 l1 l2 l3 l4 I J kx198 K l5 l6) := by
  intro K
  induction K with
  | zero => intro l5 l6; exact S.none
  | succ K ih =>
    intro l5 l6
    rw [F_X12_next_L113]
    refine S.iload 66 6 rfl rfl ?_
    refine S.aload_n 67 0 rfl rfl ?_
    refine S.getI 68 rfl fo_X12_462 rfl rfl ?_
    refine S.icmp_ge 198 69 rfl (by decide) (fun _ => ?_) (fun _ => ?_)
    · refine S.sub (lv' := [(0, .ref 81), (1, .int l1), (2, .int l2), (3, .int l3), (4, .int l4), (5, .int l5)]) [0, 1, 2, 3, 4, 5] rfl ?_
      exact hkx198 _
    · refine S.iconst (0 : Int32) 70 rfl (by decide) ?_
      refine S.istore [(7, .int (0 : Int32)), (0, .ref 81), (1, .int l1), (2, .int l2), (3, .int l3), (4, .int l4), (5, .int l5), (6, .int l6)] 71 rfl (by decide) rfl ?_
      refine S.iconst (0 : Int32) 72 rfl (by decide) ?_
      refine S.istore [(8, .int (0 : Int32)), (7, .int (0 : Int32)), (0, .ref 81), (1, .int l1), (2, .int l2), (3, .int l3), (4, .int l4), (5, .int l5), (6, .int l6)] 73 rfl (by decide) rfl ?_
      refine S.sub (lv' := [(0, .ref 81), (1, .int l1), (2, .int l2), (3, .int l3), (4, .int l4), (5, .int l5), (6, .int l6), (7, .int (0 : Int32)), (8, .int (0 : Int32))]) [2, 3, 4, 5, 6, 7, 8, 1, 0] rfl ?_
      refine s_X12_next_L128 b _ _ _ _ _ _ _ _ _ (fun y21 => ?_) bgf _ _
      refine S.iload 104 5 rfl rfl ?_
      refine S.iload 105 7 rfl rfl ?_
      refine S.mmax 106 rfl co_X12_250 ⟨Nat.le_of_ble_eq_true rfl, Nat.le_of_ble_eq_true rfl, Nat.le_of_ble_eq_true rfl, Nat.le_of_ble_eq_true rfl, Nat.le_of_ble_eq_true rfl⟩ ?_
      refine S.nmi (fun x22 => ?_)
      refine S.istore [(5, .int x22), (0, .ref 81), (1, .int l1), (2, .int l2), (3, .int l3), (4, .int l4), (6, .int l6), (7, .int y21)] 107 rfl (by decide) rfl ?_
      refine S.iinc (l6 + 1) [(6, .int (l6 + 1)), (5, .int x22), (0, .ref 81), (1, .int l1), (2, .int l2), (3, .int l3), (4, .int l4), (7, .int y21)] 108 6 rfl rfl rfl (by decide) rfl ?_
      refine S.goto 113 109 rfl (by decide) ?_
      refine S.sub (lv' := [(0, .ref 81), (1, .int l1), (2, .int l2), (3, .int l3), (4, .int l4), (5, .int x22), (6, .int (l6 + 1))]) [2, 3, 4, 5, 6, 1, 0] rfl ?_
      exact ih _ _
def F_X12_next_L101 (l1 : Int32) (I : HI) (J : HJ) (kx224 : Int32 → Int32 → Option (Int32 × HI × HJ)) : Nat → Int32 → Int32 → Int32 → Option (Int32 × HI × HJ)
  | 0, _, _, _ => none
  | K+1, l2, l3, l4 =>
    if l1 ≤ l4 then
      kx224 l2 l3
    else
      F_X12_next_L113 l1 l2 l3 l4 I J (fun (y23 : Int32) =>
      lb (fun (y24 : Int32) (y25 : Int32) =>
      F_X12_next_L101 l1 I J kx224 K y24 y25 (l4 + 1)) fun j26 =>
      lb (
      j26 l4 y23) fun j27 =>
      if l2 = (-1 : Int32) then
        j27
      else
        if y23 < l3 then
          j27
        else
          j26 l2 l3) bgf (0 : Int32) (0 : Int32)
set_option maxRecDepth 100000 in
theorem s_X12_next_L101 (b : Bool) (l1 : Int32) (I : HI) (J : HJ) (kx224 : Int32 → Int32 → Option (Int32 × HI × HJ)) (hkx224 : ∀ (y2 : Int32) (y3 : Int32), S (fI (zs b)) mX12_next (rmd 27 0 0) 0 0 (0, 0) 224 [(0, .ref 81), (2, .int y2), (3, .int y3)] [] (zs b, I, J) (kx224 y2 y3)) : ∀ (K : Nat) (l2 : Int32) (l3 : Int32) (l4 : Int32), S (fI (zs b)) mX12_next (rmd 27 0 0) 0 0 (0, 0) 101 [(0, .ref 81), (1, .int l1), (2, .int l2), (3, .int l3), (4, .int l4)] [] (zs b, I, J) (F_X12_next_L101 l1 I J kx224 K l2 l3 l4) := by
  intro K
  induction K with
  | zero => intro l2 l3 l4; exact S.none
  | succ K ih =>
    intro l2 l3 l4
    rw [F_X12_next_L101]
    refine S.iload 59 4 rfl rfl ?_
    refine S.iload_n 60 1 rfl rfl ?_
    refine S.icmp_ge 224 61 rfl (by decide) (fun _ => ?_) (fun _ => ?_)
    · refine S.sub (lv' := [(0, .ref 81), (2, .int l2), (3, .int l3)]) [0, 2, 3] rfl ?_
      exact hkx224 _ _
    · refine S.iconst (0 : Int32) 62 rfl (by decide) ?_
      refine S.istore [(5, .int (0 : Int32)), (0, .ref 81), (1, .int l1), (2, .int l2), (3, .int l3), (4, .int l4)] 63 rfl (by decide) rfl ?_
      refine S.iconst (0 : Int32) 64 rfl (by decide) ?_
      refine S.istore [(6, .int (0 : Int32)), (5, .int (0 : Int32)), (0, .ref 81), (1, .int l1), (2, .int l2), (3, .int l3), (4, .int l4)] 65 rfl (by decide) rfl ?_
      refine S.sub (lv' := [(0, .ref 81), (1, .int l1), (2, .int l2), (3, .int l3), (4, .int l4), (5, .int (0 : Int32)), (6, .int (0 : Int32))]) [2, 3, 4, 5, 6, 1, 0] rfl ?_
      refine s_X12_next_L113 b _ _ _ _ _ _ _ (fun y23 => ?_) bgf _ _
      refine S.iload_n 110 2 rfl rfl ?_
      refine S.iconst (-1 : Int32) 111 rfl (by decide) ?_
      refine S.jn (fun j => ∀ (y24 : Int32) (y25 : Int32), S (fI (zs b)) mX12_next (rmd 27 0 0) 0 0 (0, 0) 218 [(0, .ref 81), (1, .int l1), (2, .int y24), (3, .int y25), (4, .int l4)] [] (zs b, I, J) (j y24 y25)) (fun y24 y25 => ?_) (fun j26 hj26 => ?_)
      · refine S.iinc (l4 + 1) [(4, .int (l4 + 1)), (0, .ref 81), (1, .int l1), (2, .int y24), (3, .int y25)] 121 4 rfl rfl rfl (by decide) rfl ?_
        refine S.goto 101 122 rfl (by decide) ?_
        refine S.sub (lv' := [(0, .ref 81), (1, .int l1), (2, .int y24), (3, .int y25), (4, .int (l4 + 1))]) [1, 2, 3, 4, 0] rfl ?_
        exact ih _ _ _
      · refine S.jn (fun j => S (fI (zs b)) mX12_next (rmd 27 0 0) 0 0 (0, 0) 212 [(0, .ref 81), (1, .int l1), (4, .int l4), (5, .int y23)] [] (zs b, I, J) (j)) ?_ (fun j27 hj27 => ?_)
        · refine S.iload 117 2 rfl rfl ?_
          refine S.istore_n [(2, .int l4), (0, .ref 81), (1, .int l1), (4, .int l4), (5, .int y23)] 118 rfl (by decide) rfl ?_
          refine S.iload 119 4 rfl rfl ?_
          refine S.istore_n [(3, .int y23), (2, .int l4), (0, .ref 81), (1, .int l1), (4, .int l4), (5, .int y23)] 120 rfl (by decide) rfl ?_
          refine S.sub (lv' := [(0, .ref 81), (1, .int l1), (2, .int l4), (3, .int y23), (4, .int l4)]) [2, 3, 1, 0, 4] rfl ?_
          exact hj26 _ _
        · refine S.icmp_eq 212 112 rfl (by decide) (fun _ => ?_) (fun _ => ?_)
          · refine S.sub (lv' := [(0, .ref 81), (1, .int l1), (4, .int l4), (5, .int y23)]) [0, 1, 4, 5] rfl ?_
            exact hj27
          · refine S.iload 113 5 rfl rfl ?_
            refine S.iload_n 114 3 rfl rfl ?_
            refine S.icmp_lt 212 115 rfl (by decide) (fun _ => ?_) (fun _ => ?_)
            · refine S.sub (lv' := [(0, .ref 81), (1, .int l1), (4, .int l4), (5, .int y23)]) [0, 1, 4, 5] rfl ?_
              exact hj27
            · refine S.goto 218 116 rfl (by decide) ?_
              refine S.sub (lv' := [(0, .ref 81), (1, .int l1), (2, .int l2), (3, .int l3), (4, .int l4)]) [0, 1, 2, 3, 4] rfl ?_
              exact hj26 _ _
def F_X12_next  (I : HI) (J : HJ) : Option (Int32 × HI × HJ) :=
  lb (ui I m_self f_Model_thrown (0 : Int32)) fun I6 =>
  cp (F_X12_canSearch I6 J) fun r7 =>
  if r7 = 0 then
    some ((-3 : Int32), I6, J)
  else
    cl (F_X12_findAgreed I6 J) fun _ I8 J9 =>
    if (I8 m_self f_Model_agreeMany) = 0 then
      some ((-2 : Int32), I8, J9)
    else
      cp (F_X12_settings I8 J9) fun r10 =>
      F_X12_next_L36 r10 (fun (I15 : HI) (J16 : HJ) =>
      F_X12_next_L101 r10 I15 J16 (fun (y28 : Int32) (y29 : Int32) =>
      lb (ui I15 m_self f_Model_rowMany (0 : Int32)) fun I30 =>
      cl (F_X12_tell (Int32.toInt64 y28) I30 J16) fun _ I31 J32 =>
      some (y29, I31, J32)) bgf (-1 : Int32) (0 : Int32) (0 : Int32)) bgf (0 : Int32) I8 J9
set_option maxRecDepth 100000 in
theorem cm_X12_next (b : Bool)  (I : HI) (J : HJ) : CM mX12_next 27 0 0 [.ref 81] (zs b, I, J) (fI (zs b)) (F_X12_next  I J) := by
  refine S.of okX12_next pn_X12 (Nat.le_of_ble_eq_true rfl) ?_
  refine S.sub (lv' := [(0, .ref 81)]) [0] rfl ?_
  unfold F_X12_next
  refine S.aload_n 0 0 rfl rfl ?_
  refine S.iconst (0 : Int32) 1 rfl (by decide) ?_
  refine S.putI 2 rfl fo_X12_159 rfl rfl rfl rfl (fun _ hq => by cases hq; exact Or.inl rfl) (fun I6 => ?_)
  refine S.aload_n 3 0 rfl rfl ?_
  refine S.qVI (d := 1) (av := []) (rs := []) (b := 81) 4 rfl co_X12_397 rfl rfl rfl rfl rfl ⟨⟨Nat.le_of_ble_eq_true rfl, Nat.le_of_ble_eq_true rfl⟩, ⟨Nat.le_of_ble_eq_true rfl, Nat.le_of_ble_eq_true rfl⟩, Nat.le_of_ble_eq_true rfl⟩ (cm_X12_canSearch b I6 J) (fun r7 => ?_)
  refine S.if_ne 15 5 rfl (by decide) (fun _ => ?_) (fun _ => ?_)
  · refine S.aload_n 8 0 rfl rfl ?_
    refine S.cVV (d := 26) (av := []) (rs := []) (b := 81) 9 rfl co_X12_468 rfl rfl rfl rfl rfl ⟨⟨Nat.le_of_ble_eq_true rfl, Nat.le_of_ble_eq_true rfl⟩, ⟨Nat.le_of_ble_eq_true rfl, Nat.le_of_ble_eq_true rfl⟩, Nat.le_of_ble_eq_true rfl⟩ (cm_X12_findAgreed b I6 J) (fun _ I8 J9 => ?_)
    refine S.aload_n 10 0 rfl rfl ?_
    refine S.getI 11 rfl fo_X12_462 rfl rfl ?_
    refine S.if_ne 29 12 rfl (by decide) (fun _ => ?_) (fun _ => ?_)
    · refine S.aload_n 15 0 rfl rfl ?_
      refine S.qVI (d := 1) (av := []) (rs := []) (b := 81) 16 rfl co_X12_380 rfl rfl rfl rfl rfl ⟨⟨Nat.le_of_ble_eq_true rfl, Nat.le_of_ble_eq_true rfl⟩, ⟨Nat.le_of_ble_eq_true rfl, Nat.le_of_ble_eq_true rfl⟩, Nat.le_of_ble_eq_true rfl⟩ (cm_X12_settings b I8 J9) (fun r10 => ?_)
      refine S.istore_n [(1, .int r10), (0, .ref 81)] 17 rfl (by decide) rfl ?_
      refine S.iconst (0 : Int32) 18 rfl (by decide) ?_
      refine S.istore_n [(2, .int (0 : Int32)), (1, .int r10), (0, .ref 81)] 19 rfl (by decide) rfl ?_
      refine S.sub (lv' := [(0, .ref 81), (1, .int r10), (2, .int (0 : Int32))]) [2, 1, 0] rfl ?_
      refine s_X12_next_L36 b _ _ (fun I15 J16 => ?_) bgf _ _ _
      refine S.iconst (-1 : Int32) 53 rfl (by decide) ?_
      refine S.istore_n [(2, .int (-1 : Int32)), (0, .ref 81), (1, .int r10)] 54 rfl (by decide) rfl ?_
      refine S.iconst (0 : Int32) 55 rfl (by decide) ?_
      refine S.istore_n [(3, .int (0 : Int32)), (2, .int (-1 : Int32)), (0, .ref 81), (1, .int r10)] 56 rfl (by decide) rfl ?_
      refine S.iconst (0 : Int32) 57 rfl (by decide) ?_
      refine S.istore [(4, .int (0 : Int32)), (3, .int (0 : Int32)), (2, .int (-1 : Int32)), (0, .ref 81), (1, .int r10)] 58 rfl (by decide) rfl ?_
      refine S.sub (lv' := [(0, .ref 81), (1, .int r10), (2, .int (-1 : Int32)), (3, .int (0 : Int32)), (4, .int (0 : Int32))]) [3, 4, 2, 1, 0] rfl ?_
      refine s_X12_next_L101 b _ _ _ _ (fun y28 y29 => ?_) bgf _ _ _
      refine S.aload_n 123 0 rfl rfl ?_
      refine S.iconst (0 : Int32) 124 rfl (by decide) ?_
      refine S.putI 125 rfl fo_X12_162 rfl rfl rfl rfl (fun _ hq => by cases hq; exact Or.inl rfl) (fun I30 => ?_)
      refine S.aload_n 126 0 rfl rfl ?_
      refine S.iload_n 127 1 rfl rfl ?_
      refine S.i2l 128 rfl ?_
      refine S.cVV (d := 1) (av := [.long (Int32.toInt64 y28)]) (rs := [.long (Int32.toInt64 y28)]) (b := 81) 129 rfl co_X12_371 rfl rfl rfl rfl rfl ⟨⟨Nat.le_of_ble_eq_true rfl, Nat.le_of_ble_eq_true rfl⟩, ⟨Nat.le_of_ble_eq_true rfl, Nat.le_of_ble_eq_true rfl⟩, Nat.le_of_ble_eq_true rfl⟩ (cm_X12_tell b (Int32.toInt64 y28) I30 J16) (fun _ I31 J32 => ?_)
      refine S.iload_n 130 2 rfl rfl ?_
      exact S.iret 131 rfl rfl rfl (Nat.le_refl _) (Nat.le_refl _) rfl
    · refine S.bipush (-2 : Int32) 13 rfl (by decide) ?_
      exact S.iret 14 rfl rfl rfl (Nat.le_refl _) (Nat.le_refl _) rfl
  · refine S.bipush (-3 : Int32) 6 rfl (by decide) ?_
    exact S.iret 7 rfl rfl rfl (Nat.le_refl _) (Nat.le_refl _) rfl
def F_X12_test (l1 : Int32) (l2 : Int32) (I : HI) (J : HJ) : Option (Int32 × HI × HJ) :=
  lb (ui I m_self f_Model_thrown (0 : Int32)) fun I5 =>
  cp (F_X12_isSetting l1 l2 I5 J) fun r6 =>
  if r6 = 0 then
    some ((-1 : Int32), I5, J)
  else
    if (I5 m_self f_Model_testMany) = (8 : Int32) then
      some ((-1 : Int32), I5, J)
    else
      bx (I5 m_self f_Model_testMany) 8 <|
      lb (ui I5 m_testHigh (Int32.toNatClampNeg (I5 m_self f_Model_testMany)) l1) fun I7 =>
      bx (I7 m_self f_Model_testMany) 8 <|
      lb (ui I7 m_testLow (Int32.toNatClampNeg (I7 m_self f_Model_testMany)) l2) fun I8 =>
      lb (ui I8 m_self f_Model_testMany ((I8 m_self f_Model_testMany) + (1 : Int32))) fun I9 =>
      some (((I9 m_self f_Model_testMany) - (1 : Int32)), I9, J)
set_option maxRecDepth 100000 in
theorem cm_X12_test (b : Bool) (l1 : Int32) (l2 : Int32) (I : HI) (J : HJ) : CM mX12_test 3 0 0 [.ref 81, .int l1, .int l2] (zs b, I, J) (fI (zs b)) (F_X12_test l1 l2 I J) := by
  refine S.of okX12_test pn_X12 (Nat.le_of_ble_eq_true rfl) ?_
  refine S.sub (lv' := [(0, .ref 81), (1, .int l1), (2, .int l2)]) [0, 1, 2] rfl ?_
  unfold F_X12_test
  refine S.aload_n 0 0 rfl rfl ?_
  refine S.iconst (0 : Int32) 1 rfl (by decide) ?_
  refine S.putI 2 rfl fo_X12_159 rfl rfl rfl rfl (fun _ hq => by cases hq; exact Or.inl rfl) (fun I5 => ?_)
  refine S.aload_n 3 0 rfl rfl ?_
  refine S.iload_n 4 1 rfl rfl ?_
  refine S.iload_n 5 2 rfl rfl ?_
  refine S.qVI (d := 2) (av := [.int l1, .int l2]) (rs := [.int l2, .int l1]) (b := 81) 6 rfl co_X12_350 rfl rfl rfl rfl rfl ⟨⟨Nat.le_of_ble_eq_true rfl, Nat.le_of_ble_eq_true rfl⟩, ⟨Nat.le_of_ble_eq_true rfl, Nat.le_of_ble_eq_true rfl⟩, Nat.le_of_ble_eq_true rfl⟩ (cm_X12_isSetting b l1 l2 I5 J) (fun r6 => ?_)
  refine S.if_eq 23 7 rfl (by decide) (fun _ => ?_) (fun _ => ?_)
  · refine S.iconst (-1 : Int32) 12 rfl (by decide) ?_
    exact S.iret 13 rfl rfl rfl (Nat.le_refl _) (Nat.le_refl _) rfl
  · refine S.aload_n 8 0 rfl rfl ?_
    refine S.getI 9 rfl fo_X12_220 rfl rfl ?_
    refine S.bipush (8 : Int32) 10 rfl (by decide) ?_
    refine S.icmp_ne 25 11 rfl (by decide) (fun _ => ?_) (fun _ => ?_)
    · refine S.aload_n 14 0 rfl rfl ?_
      refine S.getR 15 rfl fo_X12_132 rfl rfl rfl ?_
      refine S.aload_n 16 0 rfl rfl ?_
      refine S.getI 17 rfl fo_X12_220 rfl rfl ?_
      refine S.iload_n 18 1 rfl rfl ?_
      refine S.iast 19 rfl rfl (fun I7 => ?_)
      refine S.aload_n 20 0 rfl rfl ?_
      refine S.getR 21 rfl fo_X12_135 rfl rfl rfl ?_
      refine S.aload_n 22 0 rfl rfl ?_
      refine S.getI 23 rfl fo_X12_220 rfl rfl ?_
      refine S.iload_n 24 2 rfl rfl ?_
      refine S.iast 25 rfl rfl (fun I8 => ?_)
      refine S.aload_n 26 0 rfl rfl ?_
      refine S.dup 27 rfl rfl ?_
      refine S.getI 28 rfl fo_X12_220 rfl rfl ?_
      refine S.iconst (1 : Int32) 29 rfl (by decide) ?_
      refine S.iadd 30 rfl ?_
      refine S.putI 31 rfl fo_X12_220 rfl rfl rfl rfl (fun _ hq => by cases hq; exact Or.inl rfl) (fun I9 => ?_)
      refine S.aload_n 32 0 rfl rfl ?_
      refine S.getI 33 rfl fo_X12_220 rfl rfl ?_
      refine S.iconst (1 : Int32) 34 rfl (by decide) ?_
      refine S.isub 35 rfl ?_
      exact S.iret 36 rfl rfl rfl (Nat.le_refl _) (Nat.le_refl _) rfl
    · refine S.iconst (-1 : Int32) 12 rfl (by decide) ?_
      exact S.iret 13 rfl rfl rfl (Nat.le_refl _) (Nat.le_refl _) rfl
def F_X12_firstOf (l1 : Int32) (l2 : Int32) (I : HI) (J : HJ) : Option Int32 :=
  bx (((116 : Int32) * l1) + l2) 29696 <|
  some (I m_leader (Int32.toNatClampNeg (((116 : Int32) * l1) + l2)))
set_option maxRecDepth 100000 in
theorem cm_X12_firstOf (b : Bool) (l1 : Int32) (l2 : Int32) (I : HI) (J : HJ) : CM mX12_firstOf 1 0 0 [.ref 81, .int l1, .int l2] (zs b, I, J) (pI (zs b, I, J)) (F_X12_firstOf l1 l2 I J) := by
  refine S.of okX12_firstOf pn_X12 (Nat.le_of_ble_eq_true rfl) ?_
  refine S.sub (lv' := [(0, .ref 81), (1, .int l1), (2, .int l2)]) [0, 1, 2] rfl ?_
  unfold F_X12_firstOf
  refine S.aload_n 0 0 rfl rfl ?_
  refine S.getR 1 rfl fo_X12_144 rfl rfl rfl ?_
  refine S.bipush (116 : Int32) 2 rfl (by decide) ?_
  refine S.iload_n 3 1 rfl rfl ?_
  refine S.imul 4 rfl ?_
  refine S.iload_n 5 2 rfl rfl ?_
  refine S.iadd 6 rfl ?_
  refine S.iald 7 rfl rfl ?_
  exact S.iret 8 rfl rfl rfl (Nat.le_refl _) (Nat.le_refl _) rfl
def F_X12_findAnswers_L26 (l1 : Int32) (kx67 : HI → HJ → Option (Unit × HI × HJ)) : Nat → Int32 → HI → HJ → Option (Unit × HI × HJ)
  | 0, _, _, _ => none
  | K+1, l2, I, J =>
    if (I m_self f_Model_testMany) ≤ l2 then
      kx67 I J
    else
      bx l2 8 <|
      bx l2 8 <|
      cl (F_X12_glowing (I m_testHigh (Int32.toNatClampNeg l2)) (I m_testLow (Int32.toNatClampNeg l2)) I J) fun r8 I9 J10 =>
      bx (((116 : Int32) * l2) + l1) 928 <|
      lb (uj J10 m_answer (Int32.toNatClampNeg (((116 : Int32) * l2) + l1)) r8) fun J11 =>
      F_X12_findAnswers_L26 l1 kx67 K (l2 + 1) I9 J11
set_option maxRecDepth 100000 in
theorem s_X12_findAnswers_L26 (b : Bool) (l1 : Int32) (kx67 : HI → HJ → Option (Unit × HI × HJ)) (hkx67 : ∀ (I1 : HI) (J1 : HJ), S (fV (zs b)) mX12_findAnswers (rmd 27 0 0) 0 0 (0, 0) 67 [(0, .ref 81), (1, .int l1)] [] (zs b, I1, J1) (kx67 I1 J1)) : ∀ (K : Nat) (l2 : Int32) (I : HI) (J : HJ), S (fV (zs b)) mX12_findAnswers (rmd 27 0 0) 0 0 (0, 0) 26 [(0, .ref 81), (1, .int l1), (2, .int l2)] [] (zs b, I, J) (F_X12_findAnswers_L26 l1 kx67 K l2 I J) := by
  intro K
  induction K with
  | zero => intro l2 I J; exact S.none
  | succ K ih =>
    intro l2 I J
    rw [F_X12_findAnswers_L26]
    refine S.iload_n 16 2 rfl rfl ?_
    refine S.aload_n 17 0 rfl rfl ?_
    refine S.getI 18 rfl fo_X12_220 rfl rfl ?_
    refine S.icmp_ge 67 19 rfl (by decide) (fun _ => ?_) (fun _ => ?_)
    · refine S.sub (lv' := [(0, .ref 81), (1, .int l1)]) [0, 1] rfl ?_
      exact hkx67 _ _
    · refine S.aload_n 20 0 rfl rfl ?_
      refine S.getR 21 rfl fo_X12_138 rfl rfl rfl ?_
      refine S.bipush (116 : Int32) 22 rfl (by decide) ?_
      refine S.iload_n 23 2 rfl rfl ?_
      refine S.imul 24 rfl ?_
      refine S.iload_n 25 1 rfl rfl ?_
      refine S.iadd 26 rfl ?_
      refine S.aload_n 27 0 rfl rfl ?_
      refine S.aload_n 28 0 rfl rfl ?_
      refine S.getR 29 rfl fo_X12_132 rfl rfl rfl ?_
      refine S.iload_n 30 2 rfl rfl ?_
      refine S.iald 31 rfl rfl ?_
      refine S.aload_n 32 0 rfl rfl ?_
      refine S.getR 33 rfl fo_X12_135 rfl rfl rfl ?_
      refine S.iload_n 34 2 rfl rfl ?_
      refine S.iald 35 rfl rfl ?_
      refine S.cVL (d := 24) (av := [.int (I m_testHigh (Int32.toNatClampNeg l2)), .int (I m_testLow (Int32.toNatClampNeg l2))]) (rs := [.int (I m_testLow (Int32.toNatClampNeg l2)), .int (I m_testHigh (Int32.toNatClampNeg l2))]) (b := 81) 36 rfl co_X12_346 rfl rfl rfl rfl rfl ⟨⟨Nat.le_of_ble_eq_true rfl, Nat.le_of_ble_eq_true rfl⟩, ⟨Nat.le_of_ble_eq_true rfl, Nat.le_of_ble_eq_true rfl⟩, Nat.le_of_ble_eq_true rfl⟩ (cm_X12_glowing b (I m_testHigh (Int32.toNatClampNeg l2)) (I m_testLow (Int32.toNatClampNeg l2)) I J) (fun r8 I9 J10 => ?_)
      refine S.last 37 rfl rfl (fun J11 => ?_)
      refine S.iinc (l2 + 1) [(2, .int (l2 + 1)), (0, .ref 81), (1, .int l1)] 38 2 rfl rfl rfl (by decide) rfl ?_
      refine S.goto 26 39 rfl (by decide) ?_
      refine S.sub (lv' := [(0, .ref 81), (1, .int l1), (2, .int (l2 + 1))]) [1, 2, 0] rfl ?_
      exact ih _ _ _
def F_X12_findAnswers_L6 (kx73 : HI → HJ → Option (Unit × HI × HJ)) : Nat → Int32 → HI → HJ → Option (Unit × HI × HJ)
  | 0, _, _, _ => none
  | K+1, l1, I, J =>
    if (I m_self f_Model_agreeMany) ≤ l1 then
      kx73 I J
    else
      bx l1 116 <|
      cl (F_X12_lay (I m_agreed (Int32.toNatClampNeg l1)) I J) fun _ I6 J7 =>
      F_X12_findAnswers_L26 l1 (fun (I12 : HI) (J13 : HJ) =>
      F_X12_findAnswers_L6 kx73 K (l1 + 1) I12 J13) bgf (0 : Int32) I6 J7
set_option maxRecDepth 100000 in
theorem s_X12_findAnswers_L6 (b : Bool) (kx73 : HI → HJ → Option (Unit × HI × HJ)) (hkx73 : ∀ (I1 : HI) (J1 : HJ), S (fV (zs b)) mX12_findAnswers (rmd 27 0 0) 0 0 (0, 0) 73 [(0, .ref 81)] [] (zs b, I1, J1) (kx73 I1 J1)) : ∀ (K : Nat) (l1 : Int32) (I : HI) (J : HJ), S (fV (zs b)) mX12_findAnswers (rmd 27 0 0) 0 0 (0, 0) 6 [(0, .ref 81), (1, .int l1)] [] (zs b, I, J) (F_X12_findAnswers_L6 kx73 K l1 I J) := by
  intro K
  induction K with
  | zero => intro l1 I J; exact S.none
  | succ K ih =>
    intro l1 I J
    rw [F_X12_findAnswers_L6]
    refine S.iload_n 4 1 rfl rfl ?_
    refine S.aload_n 5 0 rfl rfl ?_
    refine S.getI 6 rfl fo_X12_462 rfl rfl ?_
    refine S.icmp_ge 73 7 rfl (by decide) (fun _ => ?_) (fun _ => ?_)
    · refine S.sub (lv' := [(0, .ref 81)]) [0] rfl ?_
      exact hkx73 _ _
    · refine S.aload_n 8 0 rfl rfl ?_
      refine S.aload_n 9 0 rfl rfl ?_
      refine S.getR 10 rfl fo_X12_125 rfl rfl rfl ?_
      refine S.iload_n 11 1 rfl rfl ?_
      refine S.iald 12 rfl rfl ?_
      refine S.cVV (d := 4) (av := [.int (I m_agreed (Int32.toNatClampNeg l1))]) (rs := [.int (I m_agreed (Int32.toNatClampNeg l1))]) (b := 81) 13 rfl co_X12_343 rfl rfl rfl rfl rfl ⟨⟨Nat.le_of_ble_eq_true rfl, Nat.le_of_ble_eq_true rfl⟩, ⟨Nat.le_of_ble_eq_true rfl, Nat.le_of_ble_eq_true rfl⟩, Nat.le_of_ble_eq_true rfl⟩ (cm_X12_lay b (I m_agreed (Int32.toNatClampNeg l1)) I J) (fun _ I6 J7 => ?_)
      refine S.iconst (0 : Int32) 14 rfl (by decide) ?_
      refine S.istore_n [(2, .int (0 : Int32)), (0, .ref 81), (1, .int l1)] 15 rfl (by decide) rfl ?_
      refine S.sub (lv' := [(0, .ref 81), (1, .int l1), (2, .int (0 : Int32))]) [1, 2, 0] rfl ?_
      refine s_X12_findAnswers_L26 b _ _ (fun I12 J13 => ?_) bgf _ _ _
      refine S.iinc (l1 + 1) [(1, .int (l1 + 1)), (0, .ref 81)] 40 1 rfl rfl rfl (by decide) rfl ?_
      refine S.goto 6 41 rfl (by decide) ?_
      refine S.sub (lv' := [(0, .ref 81), (1, .int (l1 + 1))]) [1, 0] rfl ?_
      exact ih _ _ _
def F_X12_findAnswers_L75 (J : HJ) (kx97 : HI → Option (Unit × HI × HJ)) : Nat → Int32 → HI → Option (Unit × HI × HJ)
  | 0, _, _ => none
  | K+1, l1, I =>
    if (29696 : Int32) ≤ l1 then
      kx97 I
    else
      bx l1 29696 <|
      lb (ui I m_depth (Int32.toNatClampNeg l1) (-1 : Int32)) fun I16 =>
      F_X12_findAnswers_L75 J kx97 K (l1 + 1) I16
set_option maxRecDepth 100000 in
theorem s_X12_findAnswers_L75 (b : Bool) (J : HJ) (kx97 : HI → Option (Unit × HI × HJ)) (hkx97 : ∀ (I1 : HI), S (fV (zs b)) mX12_findAnswers (rmd 27 0 0) 0 0 (0, 0) 97 [(0, .ref 81)] [] (zs b, I1, J) (kx97 I1)) : ∀ (K : Nat) (l1 : Int32) (I : HI), S (fV (zs b)) mX12_findAnswers (rmd 27 0 0) 0 0 (0, 0) 75 [(0, .ref 81), (1, .int l1)] [] (zs b, I, J) (F_X12_findAnswers_L75 J kx97 K l1 I) := by
  intro K
  induction K with
  | zero => intro l1 I; exact S.none
  | succ K ih =>
    intro l1 I
    rw [F_X12_findAnswers_L75]
    refine S.iload_n 44 1 rfl rfl ?_
    refine S.aload_n 45 0 rfl rfl ?_
    refine S.getR 46 rfl fo_X12_141 rfl rfl rfl ?_
    refine S.alen (29696 : Int32) 47 rfl rfl (by decide) (by decide) (by decide) ?_
    refine S.icmp_ge 97 48 rfl (by decide) (fun _ => ?_) (fun _ => ?_)
    · refine S.sub (lv' := [(0, .ref 81)]) [0] rfl ?_
      exact hkx97 _
    · refine S.aload_n 49 0 rfl rfl ?_
      refine S.getR 50 rfl fo_X12_141 rfl rfl rfl ?_
      refine S.iload_n 51 1 rfl rfl ?_
      refine S.iconst (-1 : Int32) 52 rfl (by decide) ?_
      refine S.iast 53 rfl rfl (fun I16 => ?_)
      refine S.iinc (l1 + 1) [(1, .int (l1 + 1)), (0, .ref 81)] 54 1 rfl rfl rfl (by decide) rfl ?_
      refine S.goto 75 55 rfl (by decide) ?_
      refine S.sub (lv' := [(0, .ref 81), (1, .int (l1 + 1))]) [1, 0] rfl ?_
      exact ih _ _
def F_X12_findAnswers_L135 (l1 : Int32) (l2 : Int32) (l3 : Int32) (I : HI) (J : HJ) (kx196 : Int32 → Option (Unit × HI × HJ)) : Nat → Int32 → Option (Unit × HI × HJ)
  | 0, _ => none
  | K+1, l4 =>
    if l1 ≤ 0 then
      kx196 l4
    else
      cp (F_X12_firstOf (l1 &&& (l1 - (1 : Int32))) l4 I J) fun r20 =>
      cp (F_X12_firstOf (l1 &&& (l1 - (1 : Int32))) l3 I J) fun r21 =>
      lb (
      F_X12_findAnswers_L135 l1 l2 l3 I J kx196 K (l4 + 1)) fun j22 =>
      if r20 = r21 then
        bx (((116 : Int32) * l2) + l4) 928 <|
        bx (((116 : Int32) * l2) + l3) 928 <|
        if (lg_cmp (J m_answer (Int32.toNatClampNeg (((116 : Int32) * l2) + l4))) (J m_answer (Int32.toNatClampNeg (((116 : Int32) * l2) + l3)))) = 0 then
          kx196 l4
        else
          j22
      else
        j22
set_option maxRecDepth 100000 in
theorem s_X12_findAnswers_L135 (b : Bool) (l1 : Int32) (l2 : Int32) (l3 : Int32) (I : HI) (J : HJ) (kx196 : Int32 → Option (Unit × HI × HJ)) (hkx196 : ∀ (y4 : Int32), S (fV (zs b)) mX12_findAnswers (rmd 27 0 0) 0 0 (0, 0) 196 [(0, .ref 81), (1, .int l1), (2, .int l2), (3, .int l3), (4, .int y4)] [] (zs b, I, J) (kx196 y4)) : ∀ (K : Nat) (l4 : Int32), S (fV (zs b)) mX12_findAnswers (rmd 27 0 0) 0 0 (0, 0) 135 [(0, .ref 81), (1, .int l1), (2, .int l2), (3, .int l3), (4, .int l4)] [] (zs b, I, J) (F_X12_findAnswers_L135 l1 l2 l3 I J kx196 K l4) := by
  intro K
  induction K with
  | zero => intro l4; exact S.none
  | succ K ih =>
    intro l4
    rw [F_X12_findAnswers_L135]
    refine S.iload_n 79 1 rfl rfl ?_
    refine S.if_le 196 80 rfl (by decide) (fun _ => ?_) (fun _ => ?_)
    · exact hkx196 _
    · refine S.aload_n 81 0 rfl rfl ?_
      refine S.iload_n 82 1 rfl rfl ?_
      refine S.iload_n 83 1 rfl rfl ?_
      refine S.iconst (1 : Int32) 84 rfl (by decide) ?_
      refine S.isub 85 rfl ?_
      refine S.iand 86 rfl ?_
      refine S.iload 87 4 rfl rfl ?_
      refine S.qVI (d := 1) (av := [.int (l1 &&& (l1 - (1 : Int32))), .int l4]) (rs := [.int l4, .int (l1 &&& (l1 - (1 : Int32)))]) (b := 81) 88 rfl co_X12_471 rfl rfl rfl rfl rfl ⟨⟨Nat.le_of_ble_eq_true rfl, Nat.le_of_ble_eq_true rfl⟩, ⟨Nat.le_of_ble_eq_true rfl, Nat.le_of_ble_eq_true rfl⟩, Nat.le_of_ble_eq_true rfl⟩ (cm_X12_firstOf b (l1 &&& (l1 - (1 : Int32))) l4 I J) (fun r20 => ?_)
      refine S.aload_n 89 0 rfl rfl ?_
      refine S.iload_n 90 1 rfl rfl ?_
      refine S.iload_n 91 1 rfl rfl ?_
      refine S.iconst (1 : Int32) 92 rfl (by decide) ?_
      refine S.isub 93 rfl ?_
      refine S.iand 94 rfl ?_
      refine S.iload_n 95 3 rfl rfl ?_
      refine S.qVI (d := 1) (av := [.int (l1 &&& (l1 - (1 : Int32))), .int l3]) (rs := [.int l3, .int (l1 &&& (l1 - (1 : Int32)))]) (b := 81) 96 rfl co_X12_471 rfl rfl rfl rfl rfl ⟨⟨Nat.le_of_ble_eq_true rfl, Nat.le_of_ble_eq_true rfl⟩, ⟨Nat.le_of_ble_eq_true rfl, Nat.le_of_ble_eq_true rfl⟩, Nat.le_of_ble_eq_true rfl⟩ (cm_X12_firstOf b (l1 &&& (l1 - (1 : Int32))) l3 I J) (fun r21 => ?_)
      refine S.jn (fun j => S (fV (zs b)) mX12_findAnswers (rmd 27 0 0) 0 0 (0, 0) 190 [(0, .ref 81), (1, .int l1), (2, .int l2), (3, .int l3), (4, .int l4)] [] (zs b, I, J) (j)) ?_ (fun j22 hj22 => ?_)
      · refine S.iinc (l4 + 1) [(4, .int (l4 + 1)), (0, .ref 81), (1, .int l1), (2, .int l2), (3, .int l3)] 116 4 rfl rfl rfl (by decide) rfl ?_
        refine S.goto 135 117 rfl (by decide) ?_
        refine S.sub (lv' := [(0, .ref 81), (1, .int l1), (2, .int l2), (3, .int l3), (4, .int (l4 + 1))]) [1, 2, 3, 4, 0] rfl ?_
        exact ih _
      · refine S.icmp_ne 190 97 rfl (by decide) (fun _ => ?_) (fun _ => ?_)
        · exact hj22
        · refine S.aload_n 98 0 rfl rfl ?_
          refine S.getR 99 rfl fo_X12_138 rfl rfl rfl ?_
          refine S.bipush (116 : Int32) 100 rfl (by decide) ?_
          refine S.iload_n 101 2 rfl rfl ?_
          refine S.imul 102 rfl ?_
          refine S.iload 103 4 rfl rfl ?_
          refine S.iadd 104 rfl ?_
          refine S.lald 105 rfl rfl ?_
          refine S.aload_n 106 0 rfl rfl ?_
          refine S.getR 107 rfl fo_X12_138 rfl rfl rfl ?_
          refine S.bipush (116 : Int32) 108 rfl (by decide) ?_
          refine S.iload_n 109 2 rfl rfl ?_
          refine S.imul 110 rfl ?_
          refine S.iload_n 111 3 rfl rfl ?_
          refine S.iadd 112 rfl ?_
          refine S.lald 113 rfl rfl ?_
          refine S.lcmp 114 rfl ?_
          refine S.if_eq 196 115 rfl (by decide) (fun _ => ?_) (fun _ => ?_)
          · exact hkx196 _
          · exact hj22
def F_X12_findAnswers_L124 (l1 : Int32) (l2 : Int32) (J : HJ) (kx215 : HI → Option (Unit × HI × HJ)) : Nat → Int32 → HI → Option (Unit × HI × HJ)
  | 0, _, _ => none
  | K+1, l3, I =>
    if (I m_self f_Model_agreeMany) ≤ l3 then
      kx215 I
    else
      F_X12_findAnswers_L135 l1 l2 l3 I J (fun (y23 : Int32) =>
      bx (((116 : Int32) * l1) + l3) 29696 <|
      lb (ui I m_leader (Int32.toNatClampNeg (((116 : Int32) * l1) + l3)) y23) fun I24 =>
      F_X12_findAnswers_L124 l1 l2 J kx215 K (l3 + 1) I24) bgf (0 : Int32)
set_option maxRecDepth 100000 in
theorem s_X12_findAnswers_L124 (b : Bool) (l1 : Int32) (l2 : Int32) (J : HJ) (kx215 : HI → Option (Unit × HI × HJ)) (hkx215 : ∀ (I1 : HI), S (fV (zs b)) mX12_findAnswers (rmd 27 0 0) 0 0 (0, 0) 215 [(0, .ref 81), (1, .int l1)] [] (zs b, I1, J) (kx215 I1)) : ∀ (K : Nat) (l3 : Int32) (I : HI), S (fV (zs b)) mX12_findAnswers (rmd 27 0 0) 0 0 (0, 0) 124 [(0, .ref 81), (1, .int l1), (2, .int l2), (3, .int l3)] [] (zs b, I, J) (F_X12_findAnswers_L124 l1 l2 J kx215 K l3 I) := by
  intro K
  induction K with
  | zero => intro l3 I; exact S.none
  | succ K ih =>
    intro l3 I
    rw [F_X12_findAnswers_L124]
    refine S.iload_n 73 3 rfl rfl ?_
    refine S.aload_n 74 0 rfl rfl ?_
    refine S.getI 75 rfl fo_X12_462 rfl rfl ?_
    refine S.icmp_ge 215 76 rfl (by decide) (fun _ => ?_) (fun _ => ?_)
    · refine S.sub (lv' := [(0, .ref 81), (1, .int l1)]) [0, 1] rfl ?_
      exact hkx215 _
    · refine S.iconst (0 : Int32) 77 rfl (by decide) ?_
      refine S.istore [(4, .int (0 : Int32)), (0, .ref 81), (1, .int l1), (2, .int l2), (3, .int l3)] 78 rfl (by decide) rfl ?_
      refine S.sub (lv' := [(0, .ref 81), (1, .int l1), (2, .int l2), (3, .int l3), (4, .int (0 : Int32))]) [1, 2, 3, 4, 0] rfl ?_
      refine s_X12_findAnswers_L135 b _ _ _ _ _ _ (fun y23 => ?_) bgf _
      refine S.aload_n 118 0 rfl rfl ?_
      refine S.getR 119 rfl fo_X12_144 rfl rfl rfl ?_
      refine S.bipush (116 : Int32) 120 rfl (by decide) ?_
      refine S.iload_n 121 1 rfl rfl ?_
      refine S.imul 122 rfl ?_
      refine S.iload_n 123 3 rfl rfl ?_
      refine S.iadd 124 rfl ?_
      refine S.iload 125 4 rfl rfl ?_
      refine S.iast 126 rfl rfl (fun I24 => ?_)
      refine S.iinc (l3 + 1) [(3, .int (l3 + 1)), (0, .ref 81), (1, .int l1), (2, .int l2), (4, .int y23)] 127 3 rfl rfl rfl (by decide) rfl ?_
      refine S.goto 124 128 rfl (by decide) ?_
      refine S.sub (lv' := [(0, .ref 81), (1, .int l1), (2, .int l2), (3, .int (l3 + 1))]) [1, 2, 3, 0] rfl ?_
      exact ih _ _
def F_X12_findAnswers_L99 (J : HJ) : Nat → Int32 → HI → Option (Unit × HI × HJ)
  | 0, _, _ => none
  | K+1, l1, I =>
    if (oshl (1 : Int32) (I m_self f_Model_testMany)) ≤ l1 then
      some ((), I, J)
    else
      lb (fun (y18 : Int32) =>
      F_X12_findAnswers_L124 l1 y18 J (fun (I25 : HI) =>
      F_X12_findAnswers_L99 J K (l1 + 1) I25) bgf (0 : Int32) I) fun j19 =>
      if l1 = 0 then
        j19 (-1 : Int32)
      else
        cp (F_J6_numberOfTrailingZeros_0f7a4 l1) fun r26 =>
        j19 r26
set_option maxRecDepth 100000 in
theorem s_X12_findAnswers_L99 (b : Bool) (J : HJ) : ∀ (K : Nat) (l1 : Int32) (I : HI), S (fV (zs b)) mX12_findAnswers (rmd 27 0 0) 0 0 (0, 0) 99 [(0, .ref 81), (1, .int l1)] [] (zs b, I, J) (F_X12_findAnswers_L99 J K l1 I) := by
  intro K
  induction K with
  | zero => intro l1 I; exact S.none
  | succ K ih =>
    intro l1 I
    rw [F_X12_findAnswers_L99]
    refine S.iload_n 58 1 rfl rfl ?_
    refine S.iconst (1 : Int32) 59 rfl (by decide) ?_
    refine S.aload_n 60 0 rfl rfl ?_
    refine S.getI 61 rfl fo_X12_220 rfl rfl ?_
    refine S.ishl 62 rfl ?_
    refine S.icmp_ge 221 63 rfl (by decide) (fun _ => ?_) (fun _ => ?_)
    · exact S.vret 131 rfl rfl (Nat.le_refl _) (Nat.le_refl _) rfl
    · refine S.iload_n 64 1 rfl rfl ?_
      refine S.jn (fun j => ∀ (y18 : Int32), S (fV (zs b)) mX12_findAnswers (rmd 27 0 0) 0 0 (0, 0) 121 [(0, .ref 81), (1, .int l1)] [.int y18] (zs b, I, J) (j y18)) (fun y18 => ?_) (fun j19 hj19 => ?_)
      · refine S.istore_n [(2, .int y18), (0, .ref 81), (1, .int l1)] 70 rfl (by decide) rfl ?_
        refine S.iconst (0 : Int32) 71 rfl (by decide) ?_
        refine S.istore_n [(3, .int (0 : Int32)), (2, .int y18), (0, .ref 81), (1, .int l1)] 72 rfl (by decide) rfl ?_
        refine S.sub (lv' := [(0, .ref 81), (1, .int l1), (2, .int y18), (3, .int (0 : Int32))]) [2, 3, 1, 0] rfl ?_
        refine s_X12_findAnswers_L124 b _ _ _ _ (fun I25 => ?_) bgf _ _
        refine S.iinc (l1 + 1) [(1, .int (l1 + 1)), (0, .ref 81)] 129 1 rfl rfl rfl (by decide) rfl ?_
        refine S.goto 99 130 rfl (by decide) ?_
        refine S.sub (lv' := [(0, .ref 81), (1, .int (l1 + 1))]) [1, 0] rfl ?_
        exact ih _ _
      · refine S.if_ne 117 65 rfl (by decide) (fun _ => ?_) (fun _ => ?_)
        · refine S.iload_n 68 1 rfl rfl ?_
          refine S.qSI (d := 1) (av := [.int l1]) (rs := [.int l1]) 69 rfl co_X12_420 rfl rfl ⟨⟨Nat.le_of_ble_eq_true rfl, Nat.le_of_ble_eq_true rfl⟩, ⟨Nat.le_of_ble_eq_true rfl, Nat.le_of_ble_eq_true rfl⟩, Nat.le_of_ble_eq_true rfl⟩ (cm_J6_numberOfTrailingZeros_0f7a4 (zs b, I, J) l1) (fun r26 => ?_)
          exact hj19 _
        · refine S.iconst (-1 : Int32) 66 rfl (by decide) ?_
          refine S.goto 121 67 rfl (by decide) ?_
          exact hj19 _
def F_X12_findAnswers  (I : HI) (J : HJ) : Option (Unit × HI × HJ) :=
  cl (F_X12_findAgreed I J) fun _ I4 J5 =>
  F_X12_findAnswers_L6 (fun (I14 : HI) (J15 : HJ) =>
  F_X12_findAnswers_L75 J15 (fun (I17 : HI) =>
  F_X12_findAnswers_L99 J15 bgf (0 : Int32) I17) bgf (0 : Int32) I14) bgf (0 : Int32) I4 J5
set_option maxRecDepth 100000 in
theorem cm_X12_findAnswers (b : Bool)  (I : HI) (J : HJ) : CM mX12_findAnswers 27 0 0 [.ref 81] (zs b, I, J) (fV (zs b)) (F_X12_findAnswers  I J) := by
  refine S.of okX12_findAnswers pn_X12 (Nat.le_of_ble_eq_true rfl) ?_
  refine S.sub (lv' := [(0, .ref 81)]) [0] rfl ?_
  unfold F_X12_findAnswers
  refine S.aload_n 0 0 rfl rfl ?_
  refine S.cVV (d := 26) (av := []) (rs := []) (b := 81) 1 rfl co_X12_468 rfl rfl rfl rfl rfl ⟨⟨Nat.le_of_ble_eq_true rfl, Nat.le_of_ble_eq_true rfl⟩, ⟨Nat.le_of_ble_eq_true rfl, Nat.le_of_ble_eq_true rfl⟩, Nat.le_of_ble_eq_true rfl⟩ (cm_X12_findAgreed b I J) (fun _ I4 J5 => ?_)
  refine S.iconst (0 : Int32) 2 rfl (by decide) ?_
  refine S.istore_n [(1, .int (0 : Int32)), (0, .ref 81)] 3 rfl (by decide) rfl ?_
  refine S.sub (lv' := [(0, .ref 81), (1, .int (0 : Int32))]) [1, 0] rfl ?_
  refine s_X12_findAnswers_L6 b _ (fun I14 J15 => ?_) bgf _ _ _
  refine S.iconst (0 : Int32) 42 rfl (by decide) ?_
  refine S.istore_n [(1, .int (0 : Int32)), (0, .ref 81)] 43 rfl (by decide) rfl ?_
  refine S.sub (lv' := [(0, .ref 81), (1, .int (0 : Int32))]) [1, 0] rfl ?_
  refine s_X12_findAnswers_L75 b _ _ (fun I17 => ?_) bgf _ _
  refine S.iconst (0 : Int32) 56 rfl (by decide) ?_
  refine S.istore_n [(1, .int (0 : Int32)), (0, .ref 81)] 57 rfl (by decide) rfl ?_
  refine S.sub (lv' := [(0, .ref 81), (1, .int (0 : Int32))]) [1, 0] rfl ?_
  refine s_X12_findAnswers_L99 b _ bgf _ _
def F_X12_areAlike (l1 : Int32) (l2 : Int32) (l3 : Int32) (I : HI) (J : HJ) : Option Int32 :=
  cp (F_X12_firstOf l1 l2 I J) fun r1 =>
  cp (F_X12_firstOf l1 l3 I J) fun r2 =>
  if r1 = r2 then
    some (1 : Int32)
  else
    some (0 : Int32)
set_option maxRecDepth 100000 in
theorem cm_X12_areAlike (b : Bool) (l1 : Int32) (l2 : Int32) (l3 : Int32) (I : HI) (J : HJ) : CM mX12_areAlike 2 0 0 [.ref 81, .int l1, .int l2, .int l3] (zs b, I, J) (pI (zs b, I, J)) (F_X12_areAlike l1 l2 l3 I J) := by
  refine S.of okX12_areAlike pn_X12 (Nat.le_of_ble_eq_true rfl) ?_
  refine S.sub (lv' := [(0, .ref 81), (1, .int l1), (2, .int l2), (3, .int l3)]) [0, 1, 2, 3] rfl ?_
  unfold F_X12_areAlike
  refine S.aload_n 0 0 rfl rfl ?_
  refine S.iload_n 1 1 rfl rfl ?_
  refine S.iload_n 2 2 rfl rfl ?_
  refine S.qVI (d := 1) (av := [.int l1, .int l2]) (rs := [.int l2, .int l1]) (b := 81) 3 rfl co_X12_471 rfl rfl rfl rfl rfl ⟨⟨Nat.le_of_ble_eq_true rfl, Nat.le_of_ble_eq_true rfl⟩, ⟨Nat.le_of_ble_eq_true rfl, Nat.le_of_ble_eq_true rfl⟩, Nat.le_of_ble_eq_true rfl⟩ (cm_X12_firstOf b l1 l2 I J) (fun r1 => ?_)
  refine S.aload_n 4 0 rfl rfl ?_
  refine S.iload_n 5 1 rfl rfl ?_
  refine S.iload_n 6 3 rfl rfl ?_
  refine S.qVI (d := 1) (av := [.int l1, .int l3]) (rs := [.int l3, .int l1]) (b := 81) 7 rfl co_X12_471 rfl rfl rfl rfl rfl ⟨⟨Nat.le_of_ble_eq_true rfl, Nat.le_of_ble_eq_true rfl⟩, ⟨Nat.le_of_ble_eq_true rfl, Nat.le_of_ble_eq_true rfl⟩, Nat.le_of_ble_eq_true rfl⟩ (cm_X12_firstOf b l1 l3 I J) (fun r2 => ?_)
  refine S.icmp_ne 19 8 rfl (by decide) (fun _ => ?_) (fun _ => ?_)
  · refine S.iconst (0 : Int32) 11 rfl (by decide) ?_
    exact S.iret 12 rfl rfl rfl (Nat.le_refl _) (Nat.le_refl _) rfl
  · refine S.iconst (1 : Int32) 9 rfl (by decide) ?_
    refine S.goto 20 10 rfl (by decide) ?_
    exact S.iret 12 rfl rfl rfl (Nat.le_refl _) (Nat.le_refl _) rfl
def F_X12_parts_L3 (l1 : Int32) (l2 : Int32) (l3 : Int32) (I : HI) (J : HJ) : Nat → Int32 → Option Int32
  | 0, _ => none
  | K+1, l4 =>
    if (I m_self f_Model_agreeMany) ≤ l4 then
      some (0 : Int32)
    else
      cp (F_X12_areAlike l2 l4 l3 I J) fun r1 =>
      lb (
      F_X12_parts_L3 l1 l2 l3 I J K (l4 + 1)) fun j2 =>
      if r1 = 0 then
        j2
      else
        bx (((116 : Int32) * l1) + l4) 928 <|
        bx (((116 : Int32) * l1) + l3) 928 <|
        if (lg_cmp (J m_answer (Int32.toNatClampNeg (((116 : Int32) * l1) + l4))) (J m_answer (Int32.toNatClampNeg (((116 : Int32) * l1) + l3)))) = 0 then
          j2
        else
          some (1 : Int32)
set_option maxRecDepth 100000 in
theorem s_X12_parts_L3 (b : Bool) (l1 : Int32) (l2 : Int32) (l3 : Int32) (I : HI) (J : HJ) : ∀ (K : Nat) (l4 : Int32), S (pI (zs b, I, J)) mX12_parts (rmd 3 0 0) 0 0 (0, 0) 3 [(0, .ref 81), (1, .int l1), (2, .int l2), (3, .int l3), (4, .int l4)] [] (zs b, I, J) (F_X12_parts_L3 l1 l2 l3 I J K l4) := by
  intro K
  induction K with
  | zero => intro l4; exact S.none
  | succ K ih =>
    intro l4
    rw [F_X12_parts_L3]
    refine S.iload 2 4 rfl rfl ?_
    refine S.aload_n 3 0 rfl rfl ?_
    refine S.getI 4 rfl fo_X12_462 rfl rfl ?_
    refine S.icmp_ge 58 5 rfl (by decide) (fun _ => ?_) (fun _ => ?_)
    · refine S.iconst (0 : Int32) 34 rfl (by decide) ?_
      exact S.iret 35 rfl rfl rfl (Nat.le_refl _) (Nat.le_refl _) rfl
    · refine S.aload_n 6 0 rfl rfl ?_
      refine S.iload_n 7 2 rfl rfl ?_
      refine S.iload 8 4 rfl rfl ?_
      refine S.iload_n 9 3 rfl rfl ?_
      refine S.qVI (d := 2) (av := [.int l2, .int l4, .int l3]) (rs := [.int l3, .int l4, .int l2]) (b := 81) 10 rfl co_X12_474 rfl rfl rfl rfl rfl ⟨⟨Nat.le_of_ble_eq_true rfl, Nat.le_of_ble_eq_true rfl⟩, ⟨Nat.le_of_ble_eq_true rfl, Nat.le_of_ble_eq_true rfl⟩, Nat.le_of_ble_eq_true rfl⟩ (cm_X12_areAlike b l2 l4 l3 I J) (fun r1 => ?_)
      refine S.jn (fun j => S (pI (zs b, I, J)) mX12_parts (rmd 3 0 0) 0 0 (0, 0) 52 [(0, .ref 81), (1, .int l1), (2, .int l2), (3, .int l3), (4, .int l4)] [] (zs b, I, J) (j)) ?_ (fun j2 hj2 => ?_)
      · refine S.iinc (l4 + 1) [(4, .int (l4 + 1)), (0, .ref 81), (1, .int l1), (2, .int l2), (3, .int l3)] 32 4 rfl rfl rfl (by decide) rfl ?_
        refine S.goto 3 33 rfl (by decide) ?_
        refine S.sub (lv' := [(0, .ref 81), (1, .int l1), (2, .int l2), (3, .int l3), (4, .int (l4 + 1))]) [1, 2, 3, 4, 0] rfl ?_
        exact ih _
      · refine S.if_eq 52 11 rfl (by decide) (fun _ => ?_) (fun _ => ?_)
        · exact hj2
        · refine S.aload_n 12 0 rfl rfl ?_
          refine S.getR 13 rfl fo_X12_138 rfl rfl rfl ?_
          refine S.bipush (116 : Int32) 14 rfl (by decide) ?_
          refine S.iload_n 15 1 rfl rfl ?_
          refine S.imul 16 rfl ?_
          refine S.iload 17 4 rfl rfl ?_
          refine S.iadd 18 rfl ?_
          refine S.lald 19 rfl rfl ?_
          refine S.aload_n 20 0 rfl rfl ?_
          refine S.getR 21 rfl fo_X12_138 rfl rfl rfl ?_
          refine S.bipush (116 : Int32) 22 rfl (by decide) ?_
          refine S.iload_n 23 1 rfl rfl ?_
          refine S.imul 24 rfl ?_
          refine S.iload_n 25 3 rfl rfl ?_
          refine S.iadd 26 rfl ?_
          refine S.lald 27 rfl rfl ?_
          refine S.lcmp 28 rfl ?_
          refine S.if_eq 52 29 rfl (by decide) (fun _ => ?_) (fun _ => ?_)
          · exact hj2
          · refine S.iconst (1 : Int32) 30 rfl (by decide) ?_
            exact S.iret 31 rfl rfl rfl (Nat.le_refl _) (Nat.le_refl _) rfl
def F_X12_parts (l1 : Int32) (l2 : Int32) (l3 : Int32) (I : HI) (J : HJ) : Option Int32 :=
  F_X12_parts_L3 l1 l2 l3 I J bgf (0 : Int32)
set_option maxRecDepth 100000 in
theorem cm_X12_parts (b : Bool) (l1 : Int32) (l2 : Int32) (l3 : Int32) (I : HI) (J : HJ) : CM mX12_parts 3 0 0 [.ref 81, .int l1, .int l2, .int l3] (zs b, I, J) (pI (zs b, I, J)) (F_X12_parts l1 l2 l3 I J) := by
  refine S.of okX12_parts pn_X12 (Nat.le_of_ble_eq_true rfl) ?_
  refine S.sub (lv' := [(0, .ref 81), (1, .int l1), (2, .int l2), (3, .int l3)]) [0, 1, 2, 3] rfl ?_
  unfold F_X12_parts
  refine S.iconst (0 : Int32) 0 rfl (by decide) ?_
  refine S.istore [(4, .int (0 : Int32)), (0, .ref 81), (1, .int l1), (2, .int l2), (3, .int l3)] 1 rfl (by decide) rfl ?_
  refine S.sub (lv' := [(0, .ref 81), (1, .int l1), (2, .int l2), (3, .int l3), (4, .int (0 : Int32))]) [1, 2, 3, 4, 0] rfl ?_
  refine s_X12_parts_L3 b _ _ _ _ _ bgf _
def F_X12_depthBy_L13 (rc : Int32 → Int32 → HI → HJ → Option (Int32 × HI × HJ)) (l2 : Int32) (l3 : Int32) (l5 : Int32) (kx67 : Int32 → HI → HJ → Option (Int32 × HI × HJ)) : Nat → Int32 → Int32 → HI → HJ → Option (Int32 × HI × HJ)
  | 0, _, _, _, _ => none
  | K+1, l4, l6, I, J =>
    if (I m_self f_Model_agreeMany) ≤ l6 then
      kx67 l4 I J
    else
      cp (F_X12_areAlike l2 l6 l3 I J) fun r4 =>
      lb (fun (y5 : Int32) (I6 : HI) (J7 : HJ) =>
      F_X12_depthBy_L13 rc l2 l3 l5 kx67 K y5 (l6 + 1) I6 J7) fun j8 =>
      if r4 = 0 then
        j8 l4 I J
      else
        cp (F_X12_firstOf l5 l6 I J) fun r9 =>
        if r9 = l6 then
          cl (rc l5 l6 I J) fun r10 I11 J12 =>
          lb ((omax l4 r10)) fun x13 =>
          j8 x13 I11 J12
        else
          j8 l4 I J
set_option maxRecDepth 100000 in
theorem s_X12_depthBy_L13 (b : Bool) (rc : Int32 → Int32 → HI → HJ → Option (Int32 × HI × HJ)) (dn : Nat) (hdn : 3 ≤ dn) (hrc : ∀ (a0 : Int32) (a1 : Int32) (I : HI) (J : HJ), CM mX12_depthOf dn 0 0 [.ref 81, .int a0, .int a1] (zs b, I, J) (fI (zs b)) (rc a0 a1 I J)) (l2 : Int32) (l3 : Int32) (l5 : Int32) (kx67 : Int32 → HI → HJ → Option (Int32 × HI × HJ)) (hkx67 : ∀ (y4 : Int32) (I1 : HI) (J1 : HJ), S (fI (zs b)) mX12_depthBy (rmd (dn + 1) 0 0) 0 0 (0, 0) 67 [(4, .int y4)] [] (zs b, I1, J1) (kx67 y4 I1 J1)) : ∀ (K : Nat) (l4 : Int32) (l6 : Int32) (I : HI) (J : HJ), S (fI (zs b)) mX12_depthBy (rmd (dn + 1) 0 0) 0 0 (0, 0) 13 [(0, .ref 81), (2, .int l2), (3, .int l3), (4, .int l4), (5, .int l5), (6, .int l6)] [] (zs b, I, J) (F_X12_depthBy_L13 rc l2 l3 l5 kx67 K l4 l6 I J) := by
  intro K
  induction K with
  | zero => intro l4 l6 I J; exact S.none
  | succ K ih =>
    intro l4 l6 I J
    rw [F_X12_depthBy_L13]
    refine S.iload 10 5 rfl rfl ?_
    refine S.aload_n 11 0 rfl rfl ?_
    refine S.getI 12 rfl fo_X12_462 rfl rfl ?_
    refine S.icmp_ge 67 13 rfl (by decide) (fun _ => ?_) (fun _ => ?_)
    · refine S.sub (lv' := [(4, .int l4)]) [3] rfl ?_
      exact hkx67 _ _ _
    · refine S.aload_n 14 0 rfl rfl ?_
      refine S.iload_n 15 1 rfl rfl ?_
      refine S.iload 16 5 rfl rfl ?_
      refine S.iload_n 17 2 rfl rfl ?_
      refine S.qVI (d := 2) (av := [.int l2, .int l6, .int l3]) (rs := [.int l3, .int l6, .int l2]) (b := 81) 18 rfl co_X12_474 rfl rfl rfl rfl rfl ⟨⟨by show 2 + 1 ≤ dn + 1; omega, by show 8 + (4 + 11) + 64 * (2) ≤ 64 * (dn + 1); omega⟩, ⟨Nat.le_refl _, Nat.le_refl _⟩, Nat.le_of_ble_eq_true rfl⟩ (cm_X12_areAlike b l2 l6 l3 I J) (fun r4 => ?_)
      refine S.jn (fun j => ∀ (y5 : Int32) (I6 : HI) (J7 : HJ), S (fI (zs b)) mX12_depthBy (rmd (dn + 1) 0 0) 0 0 (0, 0) 61 [(0, .ref 81), (2, .int l2), (3, .int l3), (4, .int y5), (5, .int l5), (6, .int l6)] [] (zs b, I6, J7) (j y5 I6 J7)) (fun y5 I6 J7 => ?_) (fun j8 hj8 => ?_)
      · refine S.iinc (l6 + 1) [(6, .int (l6 + 1)), (0, .ref 81), (2, .int l2), (3, .int l3), (4, .int y5), (5, .int l5)] 33 5 rfl rfl rfl (by decide) rfl ?_
        refine S.goto 13 34 rfl (by decide) ?_
        refine S.sub (lv' := [(0, .ref 81), (2, .int l2), (3, .int l3), (4, .int y5), (5, .int l5), (6, .int (l6 + 1))]) [1, 2, 3, 4, 5, 0] rfl ?_
        exact ih _ _ _ _
      · refine S.if_eq 61 19 rfl (by decide) (fun _ => ?_) (fun _ => ?_)
        · exact hj8 _ _ _
        · refine S.aload_n 20 0 rfl rfl ?_
          refine S.iload 21 4 rfl rfl ?_
          refine S.iload 22 5 rfl rfl ?_
          refine S.qVI (d := 1) (av := [.int l5, .int l6]) (rs := [.int l6, .int l5]) (b := 81) 23 rfl co_X12_471 rfl rfl rfl rfl rfl ⟨⟨by show 1 + 1 ≤ dn + 1; omega, by show 8 + (3 + 11) + 64 * (1) ≤ 64 * (dn + 1); omega⟩, ⟨Nat.le_refl _, Nat.le_refl _⟩, Nat.le_of_ble_eq_true rfl⟩ (cm_X12_firstOf b l5 l6 I J) (fun r9 => ?_)
          refine S.iload 24 5 rfl rfl ?_
          refine S.icmp_ne 61 25 rfl (by decide) (fun _ => ?_) (fun _ => ?_)
          · exact hj8 _ _ _
          · refine S.iload 26 3 rfl rfl ?_
            refine S.aload_n 27 0 rfl rfl ?_
            refine S.iload 28 4 rfl rfl ?_
            refine S.iload 29 5 rfl rfl ?_
            refine S.cVI (d := dn) (av := [.int l5, .int l6]) (rs := [.int l6, .int l5]) (b := 81) 30 rfl co_X12_484 rfl rfl rfl rfl rfl ⟨⟨by show dn + 1 ≤ dn + 1; omega, by show 8 + (6 + 11) + 64 * (dn) ≤ 64 * (dn + 1); omega⟩, ⟨Nat.le_refl _, Nat.le_refl _⟩, Nat.le_of_ble_eq_true rfl⟩ (hrc l5 l6 I J) (fun r10 I11 J12 => ?_)
            refine S.mmax 31 rfl co_X12_250 ⟨by show 1 ≤ dn + 1; omega, by show 23 ≤ 64 * (dn + 1); omega, Nat.le_refl _, Nat.le_refl _, Nat.le_of_ble_eq_true rfl⟩ ?_
            refine S.nmi (fun x13 => ?_)
            refine S.istore [(4, .int x13), (0, .ref 81), (2, .int l2), (3, .int l3), (5, .int l5), (6, .int l6)] 32 rfl (by decide) rfl ?_
            refine S.sub (lv' := [(0, .ref 81), (2, .int l2), (3, .int l3), (4, .int x13), (5, .int l5), (6, .int l6)]) [1, 2, 3, 0, 4, 5] rfl ?_
            exact hj8 _ _ _
def F_X12_depthBy (rc : Int32 → Int32 → HI → HJ → Option (Int32 × HI × HJ)) (l1 : Int32) (l2 : Int32) (l3 : Int32) (I : HI) (J : HJ) : Option (Int32 × HI × HJ) :=
  lb ((l2 ||| (oshl (1 : Int32) l1))) fun x3 =>
  F_X12_depthBy_L13 rc l2 l3 x3 (fun (y14 : Int32) (I15 : HI) (J16 : HJ) =>
  some ((y14 + (1 : Int32)), I15, J16)) bgf (0 : Int32) (0 : Int32) I J
set_option maxRecDepth 100000 in
theorem cm_X12_depthBy (b : Bool) (rc : Int32 → Int32 → HI → HJ → Option (Int32 × HI × HJ)) (dn : Nat) (hdn : 3 ≤ dn) (hrc : ∀ (a0 : Int32) (a1 : Int32) (I : HI) (J : HJ), CM mX12_depthOf dn 0 0 [.ref 81, .int a0, .int a1] (zs b, I, J) (fI (zs b)) (rc a0 a1 I J)) (l1 : Int32) (l2 : Int32) (l3 : Int32) (I : HI) (J : HJ) : CM mX12_depthBy (dn + 1) 0 0 [.ref 81, .int l1, .int l2, .int l3] (zs b, I, J) (fI (zs b)) (F_X12_depthBy rc l1 l2 l3 I J) := by
  refine S.of okX12_depthBy pn_X12 (Nat.le_of_ble_eq_true rfl) ?_
  refine S.sub (lv' := [(0, .ref 81), (1, .int l1), (2, .int l2), (3, .int l3)]) [0, 1, 2, 3] rfl ?_
  unfold F_X12_depthBy
  refine S.iconst (0 : Int32) 0 rfl (by decide) ?_
  refine S.istore [(4, .int (0 : Int32)), (0, .ref 81), (1, .int l1), (2, .int l2), (3, .int l3)] 1 rfl (by decide) rfl ?_
  refine S.iload_n 2 3 rfl rfl ?_
  refine S.iconst (1 : Int32) 3 rfl (by decide) ?_
  refine S.iload_n 4 2 rfl rfl ?_
  refine S.ishl 5 rfl ?_
  refine S.ior 6 rfl ?_
  refine S.nmi (fun x3 => ?_)
  refine S.istore [(5, .int x3), (4, .int (0 : Int32)), (0, .ref 81), (1, .int l1), (2, .int l2), (3, .int l3)] 7 rfl (by decide) rfl ?_
  refine S.iconst (0 : Int32) 8 rfl (by decide) ?_
  refine S.istore [(6, .int (0 : Int32)), (5, .int x3), (4, .int (0 : Int32)), (0, .ref 81), (1, .int l1), (2, .int l2), (3, .int l3)] 9 rfl (by decide) rfl ?_
  refine S.sub (lv' := [(0, .ref 81), (2, .int l2), (3, .int l3), (4, .int (0 : Int32)), (5, .int x3), (6, .int (0 : Int32))]) [3, 5, 6, 2, 1, 0] rfl ?_
  refine s_X12_depthBy_L13 b rc dn hdn hrc _ _ _ _ (fun y14 I15 J16 => ?_) bgf _ _ _ _
  refine S.iload 35 0 rfl rfl ?_
  refine S.iconst (1 : Int32) 36 rfl (by decide) ?_
  refine S.iadd 37 rfl ?_
  exact S.iret 38 rfl rfl rfl (Nat.le_refl _) (Nat.le_refl _) rfl
def F_X12_depthOf_L32 (rc : Int32 → Int32 → HI → HJ → Option (Int32 × HI × HJ)) (l1 : Int32) (l2 : Int32) (l3 : Int32) (kx86 : Int32 → HI → HJ → Option (Int32 × HI × HJ)) : Nat → Int32 → Int32 → HI → HJ → Option (Int32 × HI × HJ)
  | 0, _, _, _, _ => none
  | K+1, l4, l5, I, J =>
    if (I m_self f_Model_testMany) ≤ l5 then
      kx86 l4 I J
    else
      cp (F_X12_has (Int32.toInt64 l1) l5) fun r5 =>
      lb (fun (y6 : Int32) (I7 : HI) (J8 : HJ) =>
      F_X12_depthOf_L32 rc l1 l2 l3 kx86 K y6 (l5 + 1) I7 J8) fun j9 =>
      if r5 = 0 then
        cp (F_X12_parts l5 l1 l2 I J) fun r10 =>
        if r10 = 0 then
          j9 l4 I J
        else
          cl (F_X12_depthBy rc l5 l1 l2 I J) fun r11 I12 J13 =>
          lb ((omin l4 r11)) fun x14 =>
          j9 x14 I12 J13
      else
        j9 l4 I J
set_option maxRecDepth 100000 in
theorem s_X12_depthOf_L32 (b : Bool) (rc : Int32 → Int32 → HI → HJ → Option (Int32 × HI × HJ)) (dn : Nat) (hdn : 3 ≤ dn) (hrc : ∀ (a0 : Int32) (a1 : Int32) (I : HI) (J : HJ), CM mX12_depthOf dn 0 0 [.ref 81, .int a0, .int a1] (zs b, I, J) (fI (zs b)) (rc a0 a1 I J)) (l1 : Int32) (l2 : Int32) (l3 : Int32) (kx86 : Int32 → HI → HJ → Option (Int32 × HI × HJ)) (hkx86 : ∀ (y4 : Int32) (I1 : HI) (J1 : HJ), S (fI (zs b)) mX12_depthOf (rmd (dn + 2) 0 0) 0 0 (0, 0) 86 [(0, .ref 81), (3, .int l3), (4, .int y4)] [] (zs b, I1, J1) (kx86 y4 I1 J1)) : ∀ (K : Nat) (l4 : Int32) (l5 : Int32) (I : HI) (J : HJ), S (fI (zs b)) mX12_depthOf (rmd (dn + 2) 0 0) 0 0 (0, 0) 32 [(0, .ref 81), (1, .int l1), (2, .int l2), (3, .int l3), (4, .int l4), (5, .int l5)] [] (zs b, I, J) (F_X12_depthOf_L32 rc l1 l2 l3 kx86 K l4 l5 I J) := by
  intro K
  induction K with
  | zero => intro l4 l5 I J; exact S.none
  | succ K ih =>
    intro l4 l5 I J
    rw [F_X12_depthOf_L32]
    refine S.iload 21 5 rfl rfl ?_
    refine S.aload_n 22 0 rfl rfl ?_
    refine S.getI 23 rfl fo_X12_220 rfl rfl ?_
    refine S.icmp_ge 86 24 rfl (by decide) (fun _ => ?_) (fun _ => ?_)
    · refine S.sub (lv' := [(0, .ref 81), (3, .int l3), (4, .int l4)]) [0, 3, 4] rfl ?_
      exact hkx86 _ _ _
    · refine S.iload_n 25 1 rfl rfl ?_
      refine S.i2l 26 rfl ?_
      refine S.iload 27 5 rfl rfl ?_
      refine S.qSI (d := 1) (av := [.long (Int32.toInt64 l1), .int l5]) (rs := [.int l5, .long (Int32.toInt64 l1)]) 28 rfl co_X12_294 rfl rfl ⟨⟨by show 1 + 1 ≤ dn + 2; omega, by show 8 + (3 + 11) + 64 * (1) ≤ 64 * (dn + 2); omega⟩, ⟨Nat.le_refl _, Nat.le_refl _⟩, Nat.le_of_ble_eq_true rfl⟩ (cm_X12_has (zs b, I, J) (Int32.toInt64 l1) l5) (fun r5 => ?_)
      refine S.jn (fun j => ∀ (y6 : Int32) (I7 : HI) (J8 : HJ), S (fI (zs b)) mX12_depthOf (rmd (dn + 2) 0 0) 0 0 (0, 0) 80 [(0, .ref 81), (1, .int l1), (2, .int l2), (3, .int l3), (4, .int y6), (5, .int l5)] [] (zs b, I7, J8) (j y6 I7 J8)) (fun y6 I7 J8 => ?_) (fun j9 hj9 => ?_)
      · refine S.iinc (l5 + 1) [(5, .int (l5 + 1)), (0, .ref 81), (1, .int l1), (2, .int l2), (3, .int l3), (4, .int y6)] 45 5 rfl rfl rfl (by decide) rfl ?_
        refine S.goto 32 46 rfl (by decide) ?_
        refine S.sub (lv' := [(0, .ref 81), (1, .int l1), (2, .int l2), (3, .int l3), (4, .int y6), (5, .int (l5 + 1))]) [1, 2, 3, 4, 5, 0] rfl ?_
        exact ih _ _ _ _
      · refine S.if_ne 80 29 rfl (by decide) (fun _ => ?_) (fun _ => ?_)
        · exact hj9 _ _ _
        · refine S.aload_n 30 0 rfl rfl ?_
          refine S.iload 31 5 rfl rfl ?_
          refine S.iload_n 32 1 rfl rfl ?_
          refine S.iload_n 33 2 rfl rfl ?_
          refine S.qVI (d := 3) (av := [.int l5, .int l1, .int l2]) (rs := [.int l2, .int l1, .int l5]) (b := 81) 34 rfl co_X12_478 rfl rfl rfl rfl rfl ⟨⟨by show 3 + 1 ≤ dn + 2; omega, by show 8 + (5 + 11) + 64 * (3) ≤ 64 * (dn + 2); omega⟩, ⟨Nat.le_refl _, Nat.le_refl _⟩, Nat.le_of_ble_eq_true rfl⟩ (cm_X12_parts b l5 l1 l2 I J) (fun r10 => ?_)
          refine S.if_ne 65 35 rfl (by decide) (fun _ => ?_) (fun _ => ?_)
          · refine S.iload 37 4 rfl rfl ?_
            refine S.aload_n 38 0 rfl rfl ?_
            refine S.iload 39 5 rfl rfl ?_
            refine S.iload_n 40 1 rfl rfl ?_
            refine S.iload_n 41 2 rfl rfl ?_
            refine S.cVI (d := dn + 1) (av := [.int l5, .int l1, .int l2]) (rs := [.int l2, .int l1, .int l5]) (b := 81) 42 rfl co_X12_481 rfl rfl rfl rfl rfl ⟨⟨by show dn + 1 + 1 ≤ dn + 2; omega, by show 8 + (7 + 11) + 64 * (dn + 1) ≤ 64 * (dn + 2); omega⟩, ⟨Nat.le_refl _, Nat.le_refl _⟩, Nat.le_of_ble_eq_true rfl⟩ (cm_X12_depthBy b rc dn hdn hrc l5 l1 l2 I J) (fun r11 I12 J13 => ?_)
            refine S.mmin 43 rfl co_X12_244 ⟨by show 1 ≤ dn + 2; omega, by show 23 ≤ 64 * (dn + 2); omega, Nat.le_refl _, Nat.le_refl _, Nat.le_of_ble_eq_true rfl⟩ ?_
            refine S.nmi (fun x14 => ?_)
            refine S.istore [(4, .int x14), (0, .ref 81), (1, .int l1), (2, .int l2), (3, .int l3), (5, .int l5)] 44 rfl (by decide) rfl ?_
            refine S.sub (lv' := [(0, .ref 81), (1, .int l1), (2, .int l2), (3, .int l3), (4, .int x14), (5, .int l5)]) [1, 2, 3, 4, 0, 5] rfl ?_
            exact hj9 _ _ _
          · refine S.goto 80 36 rfl (by decide) ?_
            exact hj9 _ _ _
def F_X12_depthOf_B (rc : Int32 → Int32 → HI → HJ → Option (Int32 × HI × HJ)) (l1 : Int32) (l2 : Int32) (I : HI) (J : HJ) : Option (Int32 × HI × HJ) :=
  lb ((((116 : Int32) * l1) + l2)) fun x4 =>
  bx x4 29696 <|
  if (I m_depth (Int32.toNatClampNeg x4)) = (-1 : Int32) then
    F_X12_depthOf_L32 rc l1 l2 x4 (fun (y15 : Int32) (I16 : HI) (J17 : HJ) =>
    lb (fun (y18 : Int32) (y19 : Int32) =>
    bx y18 29696 <|
    lb (ui I16 m_depth (Int32.toNatClampNeg y18) y19) fun I21 =>
    bx x4 29696 <|
    some ((I21 m_depth (Int32.toNatClampNeg x4)), I21, J17)) fun j20 =>
    if y15 = (1000000 : Int32) then
      j20 x4 (0 : Int32)
    else
      j20 x4 y15) bgf (1000000 : Int32) (0 : Int32) I J
  else
    bx x4 29696 <|
    some ((I m_depth (Int32.toNatClampNeg x4)), I, J)
set_option maxRecDepth 100000 in
theorem cm_X12_depthOf_B (b : Bool) (rc : Int32 → Int32 → HI → HJ → Option (Int32 × HI × HJ)) (dn : Nat) (hdn : 3 ≤ dn) (hrc : ∀ (a0 : Int32) (a1 : Int32) (I : HI) (J : HJ), CM mX12_depthOf dn 0 0 [.ref 81, .int a0, .int a1] (zs b, I, J) (fI (zs b)) (rc a0 a1 I J)) (l1 : Int32) (l2 : Int32) (I : HI) (J : HJ) : CM mX12_depthOf (dn + 2) 0 0 [.ref 81, .int l1, .int l2] (zs b, I, J) (fI (zs b)) (F_X12_depthOf_B rc l1 l2 I J) := by
  refine S.of okX12_depthOf pn_X12 (Nat.le_of_ble_eq_true rfl) ?_
  refine S.sub (lv' := [(0, .ref 81), (1, .int l1), (2, .int l2)]) [0, 1, 2] rfl ?_
  unfold F_X12_depthOf_B
  refine S.bipush (116 : Int32) 0 rfl (by decide) ?_
  refine S.iload_n 1 1 rfl rfl ?_
  refine S.imul 2 rfl ?_
  refine S.iload_n 3 2 rfl rfl ?_
  refine S.iadd 4 rfl ?_
  refine S.nmi (fun x4 => ?_)
  refine S.istore_n [(3, .int x4), (0, .ref 81), (1, .int l1), (2, .int l2)] 5 rfl (by decide) rfl ?_
  refine S.aload_n 6 1 rfl rfl ?_
  refine S.getR 7 rfl fo_X12_141 rfl rfl rfl ?_
  refine S.iload_n 8 0 rfl rfl ?_
  refine S.iald 9 rfl rfl ?_
  refine S.iconst (-1 : Int32) 10 rfl (by decide) ?_
  refine S.icmp_eq 24 11 rfl (by decide) (fun _ => ?_) (fun _ => ?_)
  · refine S.ldcw (1000000 : Int32) 17 rfl ko_X12_419 ?_
    refine S.istore [(4, .int (1000000 : Int32)), (3, .int x4), (0, .ref 81), (1, .int l1), (2, .int l2)] 18 rfl (by decide) rfl ?_
    refine S.iconst (0 : Int32) 19 rfl (by decide) ?_
    refine S.istore [(5, .int (0 : Int32)), (4, .int (1000000 : Int32)), (3, .int x4), (0, .ref 81), (1, .int l1), (2, .int l2)] 20 rfl (by decide) rfl ?_
    refine S.sub (lv' := [(0, .ref 81), (1, .int l1), (2, .int l2), (3, .int x4), (4, .int (1000000 : Int32)), (5, .int (0 : Int32))]) [3, 4, 5, 2, 1, 0] rfl ?_
    refine s_X12_depthOf_L32 b rc dn hdn hrc _ _ _ _ (fun y15 I16 J17 => ?_) bgf _ _ _ _
    refine S.aload_n 47 0 rfl rfl ?_
    refine S.getR 48 rfl fo_X12_141 rfl rfl rfl ?_
    refine S.iload_n 49 1 rfl rfl ?_
    refine S.iload 50 2 rfl rfl ?_
    refine S.ldcw (1000000 : Int32) 51 rfl ko_X12_419 ?_
    refine S.jn (fun j => ∀ (y18 : Int32) (y19 : Int32), S (fI (zs b)) mX12_depthOf (rmd (dn + 2) 0 0) 0 0 (0, 0) 105 [(0, .ref 81), (3, .int x4)] [.int y19, .int y18, .ref 122] (zs b, I16, J17) (j y18 y19)) (fun y18 y19 => ?_) (fun j20 hj20 => ?_)
    · refine S.iast 56 rfl rfl (fun I21 => ?_)
      refine S.aload_n 57 0 rfl rfl ?_
      refine S.getR 58 rfl fo_X12_141 rfl rfl rfl ?_
      refine S.iload_n 59 1 rfl rfl ?_
      refine S.iald 60 rfl rfl ?_
      exact S.iret 61 rfl rfl rfl (Nat.le_refl _) (Nat.le_refl _) rfl
    · refine S.icmp_ne 103 52 rfl (by decide) (fun _ => ?_) (fun _ => ?_)
      · refine S.iload 55 2 rfl rfl ?_
        refine S.sub (lv' := [(0, .ref 81), (3, .int x4)]) [0, 1] rfl ?_
        exact hj20 _ _
      · refine S.iconst (0 : Int32) 53 rfl (by decide) ?_
        refine S.goto 105 54 rfl (by decide) ?_
        refine S.sub (lv' := [(0, .ref 81), (3, .int x4)]) [0, 1] rfl ?_
        exact hj20 _ _
  · refine S.aload_n 12 1 rfl rfl ?_
    refine S.getR 13 rfl fo_X12_141 rfl rfl rfl ?_
    refine S.iload_n 14 0 rfl rfl ?_
    refine S.iald 15 rfl rfl ?_
    exact S.iret 16 rfl rfl rfl (Nat.le_refl _) (Nat.le_refl _) rfl
def F_X12_depthOf : Nat → Int32 → Int32 → HI → HJ → Option (Int32 × HI × HJ)
  | 0, _, _, _, _ => none
  | n+1, l1, l2, I, J => F_X12_depthOf_B (F_X12_depthOf n) l1 l2 I J
theorem cm_X12_depthOf (b : Bool) : ∀ (n : Nat) (l1 : Int32) (l2 : Int32) (I : HI) (J : HJ), CM mX12_depthOf (3 + 2 * n) 0 0 [.ref 81, .int l1, .int l2] (zs b, I, J) (fI (zs b)) (F_X12_depthOf n l1 l2 I J) := by
  intro n
  induction n with
  | zero => intro l1 l2 I J r hf; cases hf
  | succ n ih =>
    intro l1 l2 I J
    have e : 3 + 2 * (n + 1) = 3 + 2 * n + 2 := by omega
    rw [e]
    exact cm_X12_depthOf_B b (F_X12_depthOf n) (3 + 2 * n) (by omega) (ih) l1 l2 I J
def F_X12_firstTest_L16 (l1 : Int32) (l2 : Int32) (l3 : Int32) : Nat → Int32 → HI → HJ → Option (Int32 × HI × HJ)
  | 0, _, _, _ => none
  | K+1, l4, I, J =>
    cp (F_X12_has (Int32.toInt64 l1) l4) fun r4 =>
    lb (fun (I5 : HI) (J6 : HJ) =>
    F_X12_firstTest_L16 l1 l2 l3 K (l4 + 1) I5 J6) fun j7 =>
    if r4 = 0 then
      cp (F_X12_parts l4 l1 l2 I J) fun r8 =>
      if r8 = 0 then
        j7 I J
      else
        cl (F_X12_depthBy (F_X12_depthOf 20) l4 l1 l2 I J) fun r9 I10 J11 =>
        if r9 = l3 then
          some (l4, I10, J11)
        else
          j7 I10 J11
    else
      j7 I J
set_option maxRecDepth 100000 in
theorem s_X12_firstTest_L16 (b : Bool) (l1 : Int32) (l2 : Int32) (l3 : Int32) : ∀ (K : Nat) (l4 : Int32) (I : HI) (J : HJ), S (fI (zs b)) mX12_firstTest (rmd 45 0 0) 0 0 (0, 0) 16 [(0, .ref 81), (1, .int l1), (2, .int l2), (3, .int l3), (4, .int l4)] [] (zs b, I, J) (F_X12_firstTest_L16 l1 l2 l3 K l4 I J) := by
  intro K
  induction K with
  | zero => intro l4 I J; exact S.none
  | succ K ih =>
    intro l4 I J
    rw [F_X12_firstTest_L16]
    refine S.iload_n 11 1 rfl rfl ?_
    refine S.i2l 12 rfl ?_
    refine S.iload 13 4 rfl rfl ?_
    refine S.qSI (d := 1) (av := [.long (Int32.toInt64 l1), .int l4]) (rs := [.int l4, .long (Int32.toInt64 l1)]) 14 rfl co_X12_294 rfl rfl ⟨⟨Nat.le_of_ble_eq_true rfl, Nat.le_of_ble_eq_true rfl⟩, ⟨Nat.le_of_ble_eq_true rfl, Nat.le_of_ble_eq_true rfl⟩, Nat.le_of_ble_eq_true rfl⟩ (cm_X12_has (zs b, I, J) (Int32.toInt64 l1) l4) (fun r4 => ?_)
    refine S.jn (fun j => ∀ (I5 : HI) (J6 : HJ), S (fI (zs b)) mX12_firstTest (rmd 45 0 0) 0 0 (0, 0) 49 [(0, .ref 81), (1, .int l1), (2, .int l2), (3, .int l3), (4, .int l4)] [] (zs b, I5, J6) (j I5 J6)) (fun I5 J6 => ?_) (fun j7 hj7 => ?_)
    · refine S.iinc (l4 + 1) [(4, .int (l4 + 1)), (0, .ref 81), (1, .int l1), (2, .int l2), (3, .int l3)] 29 4 rfl rfl rfl (by decide) rfl ?_
      refine S.goto 16 30 rfl (by decide) ?_
      refine S.sub (lv' := [(0, .ref 81), (1, .int l1), (2, .int l2), (3, .int l3), (4, .int (l4 + 1))]) [1, 2, 3, 4, 0] rfl ?_
      exact ih _ _ _
    · refine S.if_ne 49 15 rfl (by decide) (fun _ => ?_) (fun _ => ?_)
      · exact hj7 _ _
      · refine S.aload_n 16 0 rfl rfl ?_
        refine S.iload 17 4 rfl rfl ?_
        refine S.iload_n 18 1 rfl rfl ?_
        refine S.iload_n 19 2 rfl rfl ?_
        refine S.qVI (d := 3) (av := [.int l4, .int l1, .int l2]) (rs := [.int l2, .int l1, .int l4]) (b := 81) 20 rfl co_X12_478 rfl rfl rfl rfl rfl ⟨⟨Nat.le_of_ble_eq_true rfl, Nat.le_of_ble_eq_true rfl⟩, ⟨Nat.le_of_ble_eq_true rfl, Nat.le_of_ble_eq_true rfl⟩, Nat.le_of_ble_eq_true rfl⟩ (cm_X12_parts b l4 l1 l2 I J) (fun r8 => ?_)
        refine S.if_eq 49 21 rfl (by decide) (fun _ => ?_) (fun _ => ?_)
        · exact hj7 _ _
        · refine S.aload_n 22 0 rfl rfl ?_
          refine S.iload 23 4 rfl rfl ?_
          refine S.iload_n 24 1 rfl rfl ?_
          refine S.iload_n 25 2 rfl rfl ?_
          refine S.cVI (d := 44) (av := [.int l4, .int l1, .int l2]) (rs := [.int l2, .int l1, .int l4]) (b := 81) 26 rfl co_X12_481 rfl rfl rfl rfl rfl ⟨⟨Nat.le_of_ble_eq_true rfl, Nat.le_of_ble_eq_true rfl⟩, ⟨Nat.le_of_ble_eq_true rfl, Nat.le_of_ble_eq_true rfl⟩, Nat.le_of_ble_eq_true rfl⟩ (cm_X12_depthBy b (F_X12_depthOf 20) 43 (by decide) (cm_X12_depthOf b 20) l4 l1 l2 I J) (fun r9 I10 J11 => ?_)
          refine S.iload_n 27 3 rfl rfl ?_
          refine S.icmp_eq 55 28 rfl (by decide) (fun _ => ?_) (fun _ => ?_)
          · refine S.iload 31 4 rfl rfl ?_
            exact S.iret 32 rfl rfl rfl (Nat.le_refl _) (Nat.le_refl _) rfl
          · exact hj7 _ _
def F_X12_firstTest (l1 : Int32) (l2 : Int32) (I : HI) (J : HJ) : Option (Int32 × HI × HJ) :=
  cl (F_X12_depthOf 20 l1 l2 I J) fun r1 I2 J3 =>
  if r1 = 0 then
    some ((-1 : Int32), I2, J3)
  else
    F_X12_firstTest_L16 l1 l2 r1 bgf (0 : Int32) I2 J3
set_option maxRecDepth 100000 in
theorem cm_X12_firstTest (b : Bool) (l1 : Int32) (l2 : Int32) (I : HI) (J : HJ) : CM mX12_firstTest 45 0 0 [.ref 81, .int l1, .int l2] (zs b, I, J) (fI (zs b)) (F_X12_firstTest l1 l2 I J) := by
  refine S.of okX12_firstTest pn_X12 (Nat.le_of_ble_eq_true rfl) ?_
  refine S.sub (lv' := [(0, .ref 81), (1, .int l1), (2, .int l2)]) [0, 1, 2] rfl ?_
  unfold F_X12_firstTest
  refine S.aload_n 0 0 rfl rfl ?_
  refine S.iload_n 1 1 rfl rfl ?_
  refine S.iload_n 2 2 rfl rfl ?_
  refine S.cVI (d := 43) (av := [.int l1, .int l2]) (rs := [.int l2, .int l1]) (b := 81) 3 rfl co_X12_484 rfl rfl rfl rfl rfl ⟨⟨Nat.le_of_ble_eq_true rfl, Nat.le_of_ble_eq_true rfl⟩, ⟨Nat.le_of_ble_eq_true rfl, Nat.le_of_ble_eq_true rfl⟩, Nat.le_of_ble_eq_true rfl⟩ (cm_X12_depthOf b 20 l1 l2 I J) (fun r1 I2 J3 => ?_)
  refine S.istore_n [(3, .int r1), (0, .ref 81), (1, .int l1), (2, .int l2)] 4 rfl (by decide) rfl ?_
  refine S.iload_n 5 0 rfl rfl ?_
  refine S.if_ne 13 6 rfl (by decide) (fun _ => ?_) (fun _ => ?_)
  · refine S.iconst (0 : Int32) 9 rfl (by decide) ?_
    refine S.istore [(4, .int (0 : Int32)), (3, .int r1), (0, .ref 81), (1, .int l1), (2, .int l2)] 10 rfl (by decide) rfl ?_
    refine S.sub (lv' := [(0, .ref 81), (1, .int l1), (2, .int l2), (3, .int r1), (4, .int (0 : Int32))]) [2, 3, 4, 1, 0] rfl ?_
    refine s_X12_firstTest_L16 b _ _ _ bgf _ _ _
  · refine S.iconst (-1 : Int32) 7 rfl (by decide) ?_
    exact S.iret 8 rfl rfl rfl (Nat.le_refl _) (Nat.le_refl _) rfl
def F_X12_tree_L32 (l1 : Int32) (I : HI) (J : HJ) (kx64 : Int32 → Option (Int32 × HI × HJ)) : Nat → Int32 → Int32 → Option (Int32 × HI × HJ)
  | 0, _, _ => none
  | K+1, l2, l3 =>
    if (I m_self f_Model_agreeMany) ≤ l3 then
      kx64 l2
    else
      cp (F_X12_firstOf l1 l3 I J) fun r9 =>
      lb (fun (y10 : Int32) (y11 : Int32) =>
      lb ((y10 + y11)) fun x13 =>
      F_X12_tree_L32 l1 I J kx64 K x13 (l3 + 1)) fun j12 =>
      if r9 = l3 then
        j12 l2 (1 : Int32)
      else
        j12 l2 (0 : Int32)
set_option maxRecDepth 100000 in
theorem s_X12_tree_L32 (b : Bool) (l1 : Int32) (I : HI) (J : HJ) (kx64 : Int32 → Option (Int32 × HI × HJ)) (hkx64 : ∀ (y2 : Int32), S (fI (zs b)) mX12_tree (rmd 46 0 0) 0 0 (0, 0) 64 [(0, .ref 81), (2, .int y2)] [] (zs b, I, J) (kx64 y2)) : ∀ (K : Nat) (l2 : Int32) (l3 : Int32), S (fI (zs b)) mX12_tree (rmd 46 0 0) 0 0 (0, 0) 32 [(0, .ref 81), (1, .int l1), (2, .int l2), (3, .int l3)] [] (zs b, I, J) (F_X12_tree_L32 l1 I J kx64 K l2 l3) := by
  intro K
  induction K with
  | zero => intro l2 l3; exact S.none
  | succ K ih =>
    intro l2 l3
    rw [F_X12_tree_L32]
    refine S.iload_n 21 3 rfl rfl ?_
    refine S.aload_n 22 0 rfl rfl ?_
    refine S.getI 23 rfl fo_X12_462 rfl rfl ?_
    refine S.icmp_ge 64 24 rfl (by decide) (fun _ => ?_) (fun _ => ?_)
    · refine S.sub (lv' := [(0, .ref 81), (2, .int l2)]) [0, 2] rfl ?_
      exact hkx64 _
    · refine S.iload_n 25 2 rfl rfl ?_
      refine S.aload_n 26 0 rfl rfl ?_
      refine S.iload_n 27 1 rfl rfl ?_
      refine S.iload_n 28 3 rfl rfl ?_
      refine S.qVI (d := 1) (av := [.int l1, .int l3]) (rs := [.int l3, .int l1]) (b := 81) 29 rfl co_X12_471 rfl rfl rfl rfl rfl ⟨⟨Nat.le_of_ble_eq_true rfl, Nat.le_of_ble_eq_true rfl⟩, ⟨Nat.le_of_ble_eq_true rfl, Nat.le_of_ble_eq_true rfl⟩, Nat.le_of_ble_eq_true rfl⟩ (cm_X12_firstOf b l1 l3 I J) (fun r9 => ?_)
      refine S.iload_n 30 3 rfl rfl ?_
      refine S.jn (fun j => ∀ (y10 : Int32) (y11 : Int32), S (fI (zs b)) mX12_tree (rmd 46 0 0) 0 0 (0, 0) 56 [(0, .ref 81), (1, .int l1), (3, .int l3)] [.int y11, .int y10] (zs b, I, J) (j y10 y11)) (fun y10 y11 => ?_) (fun j12 hj12 => ?_)
      · refine S.iadd 35 rfl ?_
        refine S.nmi (fun x13 => ?_)
        refine S.istore_n [(2, .int x13), (0, .ref 81), (1, .int l1), (3, .int l3)] 36 rfl (by decide) rfl ?_
        refine S.iinc (l3 + 1) [(3, .int (l3 + 1)), (2, .int x13), (0, .ref 81), (1, .int l1)] 37 3 rfl rfl rfl (by decide) rfl ?_
        refine S.goto 32 38 rfl (by decide) ?_
        refine S.sub (lv' := [(0, .ref 81), (1, .int l1), (2, .int x13), (3, .int (l3 + 1))]) [2, 3, 1, 0] rfl ?_
        exact ih _ _
      · refine S.icmp_ne 55 31 rfl (by decide) (fun _ => ?_) (fun _ => ?_)
        · refine S.iconst (0 : Int32) 34 rfl (by decide) ?_
          refine S.sub (lv' := [(0, .ref 81), (1, .int l1), (3, .int l3)]) [0, 1, 3] rfl ?_
          exact hj12 _ _
        · refine S.iconst (1 : Int32) 32 rfl (by decide) ?_
          refine S.goto 56 33 rfl (by decide) ?_
          refine S.sub (lv' := [(0, .ref 81), (1, .int l1), (3, .int l3)]) [0, 1, 3] rfl ?_
          exact hj12 _ _
def F_X12_tree  (I : HI) (J : HJ) : Option (Int32 × HI × HJ) :=
  lb (ui I m_self f_Model_thrown (0 : Int32)) fun I5 =>
  cl (F_X12_findAnswers I5 J) fun _ I6 J7 =>
  if (I6 m_self f_Model_agreeMany) = 0 then
    some ((-2 : Int32), I6, J7)
  else
    lb (((oshl (1 : Int32) (I6 m_self f_Model_testMany)) - (1 : Int32))) fun x8 =>
    F_X12_tree_L32 x8 I6 J7 (fun (y14 : Int32) =>
    cl (F_X12_depthOf 20 (0 : Int32) (0 : Int32) I6 J7) fun r15 I16 J17 =>
    cl (F_X12_firstTest (0 : Int32) (0 : Int32) I16 J17) fun r18 I19 J20 =>
    lb (ui I19 m_self f_Model_rowMany (0 : Int32)) fun I21 =>
    cl (F_X12_tell (Int32.toInt64 r18) I21 J20) fun _ I22 J23 =>
    cl (F_X12_tell (Int32.toInt64 y14) I22 J23) fun _ I24 J25 =>
    some (r15, I24, J25)) bgf (0 : Int32) (0 : Int32)
set_option maxRecDepth 100000 in
theorem cm_X12_tree (b : Bool)  (I : HI) (J : HJ) : CM mX12_tree 46 0 0 [.ref 81] (zs b, I, J) (fI (zs b)) (F_X12_tree  I J) := by
  refine S.of okX12_tree pn_X12 (Nat.le_of_ble_eq_true rfl) ?_
  refine S.sub (lv' := [(0, .ref 81)]) [0] rfl ?_
  unfold F_X12_tree
  refine S.aload_n 0 0 rfl rfl ?_
  refine S.iconst (0 : Int32) 1 rfl (by decide) ?_
  refine S.putI 2 rfl fo_X12_159 rfl rfl rfl rfl (fun _ hq => by cases hq; exact Or.inl rfl) (fun I5 => ?_)
  refine S.aload_n 3 0 rfl rfl ?_
  refine S.cVV (d := 27) (av := []) (rs := []) (b := 81) 4 rfl co_X12_487 rfl rfl rfl rfl rfl ⟨⟨Nat.le_of_ble_eq_true rfl, Nat.le_of_ble_eq_true rfl⟩, ⟨Nat.le_of_ble_eq_true rfl, Nat.le_of_ble_eq_true rfl⟩, Nat.le_of_ble_eq_true rfl⟩ (cm_X12_findAnswers b I5 J) (fun _ I6 J7 => ?_)
  refine S.aload_n 5 0 rfl rfl ?_
  refine S.getI 6 rfl fo_X12_462 rfl rfl ?_
  refine S.if_ne 19 7 rfl (by decide) (fun _ => ?_) (fun _ => ?_)
  · refine S.iconst (1 : Int32) 10 rfl (by decide) ?_
    refine S.aload_n 11 0 rfl rfl ?_
    refine S.getI 12 rfl fo_X12_220 rfl rfl ?_
    refine S.ishl 13 rfl ?_
    refine S.iconst (1 : Int32) 14 rfl (by decide) ?_
    refine S.isub 15 rfl ?_
    refine S.nmi (fun x8 => ?_)
    refine S.istore_n [(1, .int x8), (0, .ref 81)] 16 rfl (by decide) rfl ?_
    refine S.iconst (0 : Int32) 17 rfl (by decide) ?_
    refine S.istore_n [(2, .int (0 : Int32)), (1, .int x8), (0, .ref 81)] 18 rfl (by decide) rfl ?_
    refine S.iconst (0 : Int32) 19 rfl (by decide) ?_
    refine S.istore_n [(3, .int (0 : Int32)), (2, .int (0 : Int32)), (1, .int x8), (0, .ref 81)] 20 rfl (by decide) rfl ?_
    refine S.sub (lv' := [(0, .ref 81), (1, .int x8), (2, .int (0 : Int32)), (3, .int (0 : Int32))]) [3, 2, 1, 0] rfl ?_
    refine s_X12_tree_L32 b _ _ _ _ (fun y14 => ?_) bgf _ _
    refine S.aload_n 39 0 rfl rfl ?_
    refine S.iconst (0 : Int32) 40 rfl (by decide) ?_
    refine S.iconst (0 : Int32) 41 rfl (by decide) ?_
    refine S.cVI (d := 43) (av := [.int (0 : Int32), .int (0 : Int32)]) (rs := [.int (0 : Int32), .int (0 : Int32)]) (b := 81) 42 rfl co_X12_484 rfl rfl rfl rfl rfl ⟨⟨Nat.le_of_ble_eq_true rfl, Nat.le_of_ble_eq_true rfl⟩, ⟨Nat.le_of_ble_eq_true rfl, Nat.le_of_ble_eq_true rfl⟩, Nat.le_of_ble_eq_true rfl⟩ (cm_X12_depthOf b 20 (0 : Int32) (0 : Int32) I6 J7) (fun r15 I16 J17 => ?_)
    refine S.istore_n [(3, .int r15), (0, .ref 81), (2, .int y14)] 43 rfl (by decide) rfl ?_
    refine S.aload_n 44 1 rfl rfl ?_
    refine S.iconst (0 : Int32) 45 rfl (by decide) ?_
    refine S.iconst (0 : Int32) 46 rfl (by decide) ?_
    refine S.cVI (d := 45) (av := [.int (0 : Int32), .int (0 : Int32)]) (rs := [.int (0 : Int32), .int (0 : Int32)]) (b := 81) 47 rfl co_X12_490 rfl rfl rfl rfl rfl ⟨⟨Nat.le_of_ble_eq_true rfl, Nat.le_of_ble_eq_true rfl⟩, ⟨Nat.le_of_ble_eq_true rfl, Nat.le_of_ble_eq_true rfl⟩, Nat.le_of_ble_eq_true rfl⟩ (cm_X12_firstTest b (0 : Int32) (0 : Int32) I16 J17) (fun r18 I19 J20 => ?_)
    refine S.istore [(4, .int r18), (3, .int r15), (0, .ref 81), (2, .int y14)] 48 rfl (by decide) rfl ?_
    refine S.aload_n 49 2 rfl rfl ?_
    refine S.iconst (0 : Int32) 50 rfl (by decide) ?_
    refine S.putI 51 rfl fo_X12_162 rfl rfl rfl rfl (fun _ hq => by cases hq; exact Or.inl rfl) (fun I21 => ?_)
    refine S.aload_n 52 2 rfl rfl ?_
    refine S.iload 53 0 rfl rfl ?_
    refine S.i2l 54 rfl ?_
    refine S.cVV (d := 1) (av := [.long (Int32.toInt64 r18)]) (rs := [.long (Int32.toInt64 r18)]) (b := 81) 55 rfl co_X12_371 rfl rfl rfl rfl rfl ⟨⟨Nat.le_of_ble_eq_true rfl, Nat.le_of_ble_eq_true rfl⟩, ⟨Nat.le_of_ble_eq_true rfl, Nat.le_of_ble_eq_true rfl⟩, Nat.le_of_ble_eq_true rfl⟩ (cm_X12_tell b (Int32.toInt64 r18) I21 J20) (fun _ I22 J23 => ?_)
    refine S.aload_n 56 2 rfl rfl ?_
    refine S.iload_n 57 3 rfl rfl ?_
    refine S.i2l 58 rfl ?_
    refine S.cVV (d := 1) (av := [.long (Int32.toInt64 y14)]) (rs := [.long (Int32.toInt64 y14)]) (b := 81) 59 rfl co_X12_371 rfl rfl rfl rfl rfl ⟨⟨Nat.le_of_ble_eq_true rfl, Nat.le_of_ble_eq_true rfl⟩, ⟨Nat.le_of_ble_eq_true rfl, Nat.le_of_ble_eq_true rfl⟩, Nat.le_of_ble_eq_true rfl⟩ (cm_X12_tell b (Int32.toInt64 y14) I22 J23) (fun _ I24 J25 => ?_)
    refine S.iload_n 60 1 rfl rfl ?_
    exact S.iret 61 rfl rfl rfl (Nat.le_refl _) (Nat.le_refl _) rfl
  · refine S.bipush (-2 : Int32) 8 rfl (by decide) ?_
    exact S.iret 9 rfl rfl rfl (Nat.le_refl _) (Nat.le_refl _) rfl
def F_X12_path_L31 (l1 : Int32) (I : HI) (J : HJ) (kx47 : Int32 → Option (Int32 × HI × HJ)) : Nat → Int32 → Option (Int32 × HI × HJ)
  | 0, _ => none
  | K+1, l2 =>
    bx l2 116 <|
    if (I m_agreed (Int32.toNatClampNeg l2)) = l1 then
      kx47 l2
    else
      F_X12_path_L31 l1 I J kx47 K (l2 + 1)
set_option maxRecDepth 100000 in
theorem s_X12_path_L31 (b : Bool) (l1 : Int32) (I : HI) (J : HJ) (kx47 : Int32 → Option (Int32 × HI × HJ)) (hkx47 : ∀ (y2 : Int32), S (fI (zs b)) mX12_path (rmd 46 0 0) 0 0 (0, 0) 47 [(0, .ref 81), (2, .int y2)] [] (zs b, I, J) (kx47 y2)) : ∀ (K : Nat) (l2 : Int32), S (fI (zs b)) mX12_path (rmd 46 0 0) 0 0 (0, 0) 31 [(0, .ref 81), (1, .int l1), (2, .int l2)] [] (zs b, I, J) (F_X12_path_L31 l1 I J kx47 K l2) := by
  intro K
  induction K with
  | zero => intro l2; exact S.none
  | succ K ih =>
    intro l2
    rw [F_X12_path_L31]
    refine S.aload_n 18 0 rfl rfl ?_
    refine S.getR 19 rfl fo_X12_125 rfl rfl rfl ?_
    refine S.iload_n 20 2 rfl rfl ?_
    refine S.iald 21 rfl rfl ?_
    refine S.iload_n 22 1 rfl rfl ?_
    refine S.icmp_eq 47 23 rfl (by decide) (fun _ => ?_) (fun _ => ?_)
    · refine S.sub (lv' := [(0, .ref 81), (2, .int l2)]) [0, 2] rfl ?_
      exact hkx47 _
    · refine S.iinc (l2 + 1) [(2, .int (l2 + 1)), (0, .ref 81), (1, .int l1)] 24 2 rfl rfl rfl (by decide) rfl ?_
      refine S.goto 31 25 rfl (by decide) ?_
      refine S.sub (lv' := [(0, .ref 81), (1, .int l1), (2, .int (l2 + 1))]) [1, 2, 0] rfl ?_
      exact ih _
def F_X12_path_L65 (l2 : Int32) (kx104 : Int32 → Int32 → HI → HJ → Option (Int32 × HI × HJ)) : Nat → Int32 → Int32 → Int32 → HI → HJ → Option (Int32 × HI × HJ)
  | 0, _, _, _, _, _ => none
  | K+1, l3, l4, l5, I, J =>
    if l5 = (-1 : Int32) then
      kx104 l3 l4 I J
    else
      cl (F_X12_tell (Int32.toInt64 l5) I J) fun _ I17 J18 =>
      lb ((l3 ||| (oshl (1 : Int32) l5))) fun x19 =>
      cp (F_X12_firstOf x19 l2 I17 J18) fun r20 =>
      cl (F_X12_firstTest x19 r20 I17 J18) fun r21 I22 J23 =>
      F_X12_path_L65 l2 kx104 K x19 (l4 + 1) r21 I22 J23
set_option maxRecDepth 100000 in
theorem s_X12_path_L65 (b : Bool) (l2 : Int32) (kx104 : Int32 → Int32 → HI → HJ → Option (Int32 × HI × HJ)) (hkx104 : ∀ (y3 : Int32) (y4 : Int32) (I1 : HI) (J1 : HJ), S (fI (zs b)) mX12_path (rmd 46 0 0) 0 0 (0, 0) 104 [(0, .ref 81), (2, .int l2), (3, .int y3), (4, .int y4)] [] (zs b, I1, J1) (kx104 y3 y4 I1 J1)) : ∀ (K : Nat) (l3 : Int32) (l4 : Int32) (l5 : Int32) (I : HI) (J : HJ), S (fI (zs b)) mX12_path (rmd 46 0 0) 0 0 (0, 0) 65 [(0, .ref 81), (2, .int l2), (3, .int l3), (4, .int l4), (5, .int l5)] [] (zs b, I, J) (F_X12_path_L65 l2 kx104 K l3 l4 l5 I J) := by
  intro K
  induction K with
  | zero => intro l3 l4 l5 I J; exact S.none
  | succ K ih =>
    intro l3 l4 l5 I J
    rw [F_X12_path_L65]
    refine S.iload 38 4 rfl rfl ?_
    refine S.iconst (-1 : Int32) 39 rfl (by decide) ?_
    refine S.icmp_eq 104 40 rfl (by decide) (fun _ => ?_) (fun _ => ?_)
    · refine S.sub (lv' := [(0, .ref 81), (2, .int l2), (3, .int l3), (4, .int l4)]) [0, 1, 2, 3] rfl ?_
      exact hkx104 _ _ _ _
    · refine S.aload_n 41 0 rfl rfl ?_
      refine S.iload 42 4 rfl rfl ?_
      refine S.i2l 43 rfl ?_
      refine S.cVV (d := 1) (av := [.long (Int32.toInt64 l5)]) (rs := [.long (Int32.toInt64 l5)]) (b := 81) 44 rfl co_X12_371 rfl rfl rfl rfl rfl ⟨⟨Nat.le_of_ble_eq_true rfl, Nat.le_of_ble_eq_true rfl⟩, ⟨Nat.le_of_ble_eq_true rfl, Nat.le_of_ble_eq_true rfl⟩, Nat.le_of_ble_eq_true rfl⟩ (cm_X12_tell b (Int32.toInt64 l5) I J) (fun _ I17 J18 => ?_)
      refine S.iinc (l4 + 1) [(4, .int (l4 + 1)), (0, .ref 81), (2, .int l2), (3, .int l3), (5, .int l5)] 45 3 rfl rfl rfl (by decide) rfl ?_
      refine S.iload_n 46 3 rfl rfl ?_
      refine S.iconst (1 : Int32) 47 rfl (by decide) ?_
      refine S.iload 48 4 rfl rfl ?_
      refine S.ishl 49 rfl ?_
      refine S.ior 50 rfl ?_
      refine S.nmi (fun x19 => ?_)
      refine S.istore_n [(3, .int x19), (4, .int (l4 + 1)), (0, .ref 81), (2, .int l2), (5, .int l5)] 51 rfl (by decide) rfl ?_
      refine S.aload_n 52 2 rfl rfl ?_
      refine S.iload_n 53 0 rfl rfl ?_
      refine S.aload_n 54 2 rfl rfl ?_
      refine S.iload_n 55 0 rfl rfl ?_
      refine S.iload_n 56 3 rfl rfl ?_
      refine S.qVI (d := 1) (av := [.int x19, .int l2]) (rs := [.int l2, .int x19]) (b := 81) 57 rfl co_X12_471 rfl rfl rfl rfl rfl ⟨⟨Nat.le_of_ble_eq_true rfl, Nat.le_of_ble_eq_true rfl⟩, ⟨Nat.le_of_ble_eq_true rfl, Nat.le_of_ble_eq_true rfl⟩, Nat.le_of_ble_eq_true rfl⟩ (cm_X12_firstOf b x19 l2 I17 J18) (fun r20 => ?_)
      refine S.cVI (d := 45) (av := [.int x19, .int r20]) (rs := [.int r20, .int x19]) (b := 81) 58 rfl co_X12_490 rfl rfl rfl rfl rfl ⟨⟨Nat.le_of_ble_eq_true rfl, Nat.le_of_ble_eq_true rfl⟩, ⟨Nat.le_of_ble_eq_true rfl, Nat.le_of_ble_eq_true rfl⟩, Nat.le_of_ble_eq_true rfl⟩ (cm_X12_firstTest b x19 r20 I17 J18) (fun r21 I22 J23 => ?_)
      refine S.istore [(5, .int r21), (3, .int x19), (4, .int (l4 + 1)), (0, .ref 81), (2, .int l2)] 59 rfl (by decide) rfl ?_
      refine S.goto 65 60 rfl (by decide) ?_
      refine S.sub (lv' := [(0, .ref 81), (2, .int l2), (3, .int x19), (4, .int (l4 + 1)), (5, .int r21)]) [3, 4, 1, 2, 0] rfl ?_
      exact ih _ _ _ _ _
def F_X12_path_L110 (l2 : Int32) (l3 : Int32) (l4 : Int32) (I : HI) (J : HJ) (kx146 : Int32 → Option (Int32 × HI × HJ)) : Nat → Int32 → Int32 → Option (Int32 × HI × HJ)
  | 0, _, _ => none
  | K+1, l6, l7 =>
    if (I m_self f_Model_agreeMany) ≤ l7 then
      kx146 l6
    else
      cp (F_X12_areAlike l3 l7 l2 I J) fun r28 =>
      lb (fun (y29 : Int32) (y30 : Int32) =>
      lb ((y29 + y30)) fun x32 =>
      F_X12_path_L110 l2 l3 l4 I J kx146 K x32 (l7 + 1)) fun j31 =>
      if r28 = 0 then
        j31 l6 (0 : Int32)
      else
        j31 l6 (1 : Int32)
set_option maxRecDepth 100000 in
theorem s_X12_path_L110 (b : Bool) (l2 : Int32) (l3 : Int32) (l4 : Int32) (I : HI) (J : HJ) (kx146 : Int32 → Option (Int32 × HI × HJ)) (hkx146 : ∀ (y6 : Int32), S (fI (zs b)) mX12_path (rmd 46 0 0) 0 0 (0, 0) 146 [(0, .ref 81), (4, .int l4), (6, .int y6)] [] (zs b, I, J) (kx146 y6)) : ∀ (K : Nat) (l6 : Int32) (l7 : Int32), S (fI (zs b)) mX12_path (rmd 46 0 0) 0 0 (0, 0) 110 [(0, .ref 81), (2, .int l2), (3, .int l3), (4, .int l4), (6, .int l6), (7, .int l7)] [] (zs b, I, J) (F_X12_path_L110 l2 l3 l4 I J kx146 K l6 l7) := by
  intro K
  induction K with
  | zero => intro l6 l7; exact S.none
  | succ K ih =>
    intro l6 l7
    rw [F_X12_path_L110]
    refine S.iload 65 5 rfl rfl ?_
    refine S.aload_n 66 0 rfl rfl ?_
    refine S.getI 67 rfl fo_X12_462 rfl rfl ?_
    refine S.icmp_ge 146 68 rfl (by decide) (fun _ => ?_) (fun _ => ?_)
    · refine S.sub (lv' := [(0, .ref 81), (4, .int l4), (6, .int l6)]) [0, 3, 4] rfl ?_
      exact hkx146 _
    · refine S.iload 69 4 rfl rfl ?_
      refine S.aload_n 70 0 rfl rfl ?_
      refine S.iload_n 71 2 rfl rfl ?_
      refine S.iload 72 5 rfl rfl ?_
      refine S.iload_n 73 1 rfl rfl ?_
      refine S.qVI (d := 2) (av := [.int l3, .int l7, .int l2]) (rs := [.int l2, .int l7, .int l3]) (b := 81) 74 rfl co_X12_474 rfl rfl rfl rfl rfl ⟨⟨Nat.le_of_ble_eq_true rfl, Nat.le_of_ble_eq_true rfl⟩, ⟨Nat.le_of_ble_eq_true rfl, Nat.le_of_ble_eq_true rfl⟩, Nat.le_of_ble_eq_true rfl⟩ (cm_X12_areAlike b l3 l7 l2 I J) (fun r28 => ?_)
      refine S.jn (fun j => ∀ (y29 : Int32) (y30 : Int32), S (fI (zs b)) mX12_path (rmd 46 0 0) 0 0 (0, 0) 137 [(0, .ref 81), (2, .int l2), (3, .int l3), (4, .int l4), (7, .int l7)] [.int y30, .int y29] (zs b, I, J) (j y29 y30)) (fun y29 y30 => ?_) (fun j31 hj31 => ?_)
      · refine S.iadd 79 rfl ?_
        refine S.nmi (fun x32 => ?_)
        refine S.istore [(6, .int x32), (0, .ref 81), (2, .int l2), (3, .int l3), (4, .int l4), (7, .int l7)] 80 rfl (by decide) rfl ?_
        refine S.iinc (l7 + 1) [(7, .int (l7 + 1)), (6, .int x32), (0, .ref 81), (2, .int l2), (3, .int l3), (4, .int l4)] 81 5 rfl rfl rfl (by decide) rfl ?_
        refine S.goto 110 82 rfl (by decide) ?_
        refine S.sub (lv' := [(0, .ref 81), (2, .int l2), (3, .int l3), (4, .int l4), (6, .int x32), (7, .int (l7 + 1))]) [2, 3, 4, 5, 1, 0] rfl ?_
        exact ih _ _
      · refine S.if_eq 136 75 rfl (by decide) (fun _ => ?_) (fun _ => ?_)
        · refine S.iconst (0 : Int32) 78 rfl (by decide) ?_
          refine S.sub (lv' := [(0, .ref 81), (2, .int l2), (3, .int l3), (4, .int l4), (7, .int l7)]) [0, 1, 2, 3, 5] rfl ?_
          exact hj31 _ _
        · refine S.iconst (1 : Int32) 76 rfl (by decide) ?_
          refine S.goto 137 77 rfl (by decide) ?_
          refine S.sub (lv' := [(0, .ref 81), (2, .int l2), (3, .int l3), (4, .int l4), (7, .int l7)]) [0, 1, 2, 3, 5] rfl ?_
          exact hj31 _ _
def F_X12_path (l1 : Int32) (I : HI) (J : HJ) : Option (Int32 × HI × HJ) :=
  lb (ui I m_self f_Model_thrown (0 : Int32)) fun I5 =>
  cp (F_X12_isFault l1 I5 J) fun r6 =>
  if r6 = 0 then
    some ((-1 : Int32), I5, J)
  else
    cl (F_X12_bar l1 I5 J) fun r7 I8 J9 =>
    if r7 = (-2 : Int32) then
      cl (F_X12_findAnswers I8 J9) fun _ I10 J11 =>
      F_X12_path_L31 l1 I10 J11 (fun (y12 : Int32) =>
      lb (ui I10 m_self f_Model_rowMany (0 : Int32)) fun I13 =>
      cl (F_X12_firstTest (0 : Int32) (0 : Int32) I13 J11) fun r14 I15 J16 =>
      F_X12_path_L65 y12 (fun (y24 : Int32) (y25 : Int32) (I26 : HI) (J27 : HJ) =>
      F_X12_path_L110 y12 y24 y25 I26 J27 (fun (y33 : Int32) =>
      cl (F_X12_tell (Int32.toInt64 y33) I26 J27) fun _ I34 J35 =>
      some (y25, I34, J35)) bgf (0 : Int32) (0 : Int32)) bgf (0 : Int32) (0 : Int32) r14 I15 J16) bgf (0 : Int32)
    else
      some ((-1 : Int32), I8, J9)
set_option maxRecDepth 100000 in
theorem cm_X12_path (b : Bool) (l1 : Int32) (I : HI) (J : HJ) : CM mX12_path 46 0 0 [.ref 81, .int l1] (zs b, I, J) (fI (zs b)) (F_X12_path l1 I J) := by
  refine S.of okX12_path pn_X12 (Nat.le_of_ble_eq_true rfl) ?_
  refine S.sub (lv' := [(0, .ref 81), (1, .int l1)]) [0, 1] rfl ?_
  unfold F_X12_path
  refine S.aload_n 0 0 rfl rfl ?_
  refine S.iconst (0 : Int32) 1 rfl (by decide) ?_
  refine S.putI 2 rfl fo_X12_159 rfl rfl rfl rfl (fun _ hq => by cases hq; exact Or.inl rfl) (fun I5 => ?_)
  refine S.aload_n 3 0 rfl rfl ?_
  refine S.iload_n 4 1 rfl rfl ?_
  refine S.qVI (d := 3) (av := [.int l1]) (rs := [.int l1]) (b := 81) 5 rfl co_X12_456 rfl rfl rfl rfl rfl ⟨⟨Nat.le_of_ble_eq_true rfl, Nat.le_of_ble_eq_true rfl⟩, ⟨Nat.le_of_ble_eq_true rfl, Nat.le_of_ble_eq_true rfl⟩, Nat.le_of_ble_eq_true rfl⟩ (cm_X12_isFault b l1 I5 J) (fun r6 => ?_)
  refine S.if_eq 23 6 rfl (by decide) (fun _ => ?_) (fun _ => ?_)
  · refine S.iconst (-1 : Int32) 12 rfl (by decide) ?_
    exact S.iret 13 rfl rfl rfl (Nat.le_refl _) (Nat.le_refl _) rfl
  · refine S.aload_n 7 0 rfl rfl ?_
    refine S.iload_n 8 1 rfl rfl ?_
    refine S.cVI (d := 25) (av := [.int l1]) (rs := [.int l1]) (b := 81) 9 rfl co_X12_465 rfl rfl rfl rfl rfl ⟨⟨Nat.le_of_ble_eq_true rfl, Nat.le_of_ble_eq_true rfl⟩, ⟨Nat.le_of_ble_eq_true rfl, Nat.le_of_ble_eq_true rfl⟩, Nat.le_of_ble_eq_true rfl⟩ (cm_X12_bar b l1 I5 J) (fun r7 I8 J9 => ?_)
    refine S.bipush (-2 : Int32) 10 rfl (by decide) ?_
    refine S.icmp_eq 25 11 rfl (by decide) (fun _ => ?_) (fun _ => ?_)
    · refine S.aload_n 14 0 rfl rfl ?_
      refine S.cVV (d := 27) (av := []) (rs := []) (b := 81) 15 rfl co_X12_487 rfl rfl rfl rfl rfl ⟨⟨Nat.le_of_ble_eq_true rfl, Nat.le_of_ble_eq_true rfl⟩, ⟨Nat.le_of_ble_eq_true rfl, Nat.le_of_ble_eq_true rfl⟩, Nat.le_of_ble_eq_true rfl⟩ (cm_X12_findAnswers b I8 J9) (fun _ I10 J11 => ?_)
      refine S.iconst (0 : Int32) 16 rfl (by decide) ?_
      refine S.istore_n [(2, .int (0 : Int32)), (0, .ref 81), (1, .int l1)] 17 rfl (by decide) rfl ?_
      refine S.sub (lv' := [(0, .ref 81), (1, .int l1), (2, .int (0 : Int32))]) [1, 2, 0] rfl ?_
      refine s_X12_path_L31 b _ _ _ _ (fun y12 => ?_) bgf _
      refine S.aload_n 26 0 rfl rfl ?_
      refine S.iconst (0 : Int32) 27 rfl (by decide) ?_
      refine S.putI 28 rfl fo_X12_162 rfl rfl rfl rfl (fun _ hq => by cases hq; exact Or.inl rfl) (fun I13 => ?_)
      refine S.iconst (0 : Int32) 29 rfl (by decide) ?_
      refine S.istore_n [(3, .int (0 : Int32)), (0, .ref 81), (2, .int y12)] 30 rfl (by decide) rfl ?_
      refine S.iconst (0 : Int32) 31 rfl (by decide) ?_
      refine S.istore [(4, .int (0 : Int32)), (3, .int (0 : Int32)), (0, .ref 81), (2, .int y12)] 32 rfl (by decide) rfl ?_
      refine S.aload_n 33 2 rfl rfl ?_
      refine S.iconst (0 : Int32) 34 rfl (by decide) ?_
      refine S.iconst (0 : Int32) 35 rfl (by decide) ?_
      refine S.cVI (d := 45) (av := [.int (0 : Int32), .int (0 : Int32)]) (rs := [.int (0 : Int32), .int (0 : Int32)]) (b := 81) 36 rfl co_X12_490 rfl rfl rfl rfl rfl ⟨⟨Nat.le_of_ble_eq_true rfl, Nat.le_of_ble_eq_true rfl⟩, ⟨Nat.le_of_ble_eq_true rfl, Nat.le_of_ble_eq_true rfl⟩, Nat.le_of_ble_eq_true rfl⟩ (cm_X12_firstTest b (0 : Int32) (0 : Int32) I13 J11) (fun r14 I15 J16 => ?_)
      refine S.istore [(5, .int r14), (4, .int (0 : Int32)), (3, .int (0 : Int32)), (0, .ref 81), (2, .int y12)] 37 rfl (by decide) rfl ?_
      refine S.sub (lv' := [(0, .ref 81), (2, .int y12), (3, .int (0 : Int32)), (4, .int (0 : Int32)), (5, .int r14)]) [3, 4, 2, 1, 0] rfl ?_
      refine s_X12_path_L65 b _ _ (fun y24 y25 I26 J27 => ?_) bgf _ _ _ _ _
      refine S.iconst (0 : Int32) 61 rfl (by decide) ?_
      refine S.istore [(6, .int (0 : Int32)), (0, .ref 81), (2, .int y12), (3, .int y24), (4, .int y25)] 62 rfl (by decide) rfl ?_
      refine S.iconst (0 : Int32) 63 rfl (by decide) ?_
      refine S.istore [(7, .int (0 : Int32)), (6, .int (0 : Int32)), (0, .ref 81), (2, .int y12), (3, .int y24), (4, .int y25)] 64 rfl (by decide) rfl ?_
      refine S.sub (lv' := [(0, .ref 81), (2, .int y12), (3, .int y24), (4, .int y25), (6, .int (0 : Int32)), (7, .int (0 : Int32))]) [2, 3, 4, 5, 1, 0] rfl ?_
      refine s_X12_path_L110 b _ _ _ _ _ _ (fun y33 => ?_) bgf _ _
      refine S.aload_n 83 0 rfl rfl ?_
      refine S.iload 84 2 rfl rfl ?_
      refine S.i2l 85 rfl ?_
      refine S.cVV (d := 1) (av := [.long (Int32.toInt64 y33)]) (rs := [.long (Int32.toInt64 y33)]) (b := 81) 86 rfl co_X12_371 rfl rfl rfl rfl rfl ⟨⟨Nat.le_of_ble_eq_true rfl, Nat.le_of_ble_eq_true rfl⟩, ⟨Nat.le_of_ble_eq_true rfl, Nat.le_of_ble_eq_true rfl⟩, Nat.le_of_ble_eq_true rfl⟩ (cm_X12_tell b (Int32.toInt64 y33) I26 J27) (fun _ I34 J35 => ?_)
      refine S.iload 87 1 rfl rfl ?_
      exact S.iret 88 rfl rfl rfl (Nat.le_refl _) (Nat.le_refl _) rfl
    · refine S.iconst (-1 : Int32) 12 rfl (by decide) ?_
      exact S.iret 13 rfl rfl rfl (Nat.le_refl _) (Nat.le_refl _) rfl
def F_X12_keep_L42 (l1 : Int32) (l2 : Int32) (J : HJ) (kx106 : HI → Option (Int32 × HI × HJ)) : Nat → Int32 → HI → Option (Int32 × HI × HJ)
  | 0, _, _ => none
  | K+1, l3, I =>
    if (60 : Int32) ≤ l3 then
      kx106 I
    else
      bx l3 60 <|
      bx (l2 + ((3 : Int32) * l3)) 416 <|
      lb (ui I m_kept (Int32.toNatClampNeg (l2 + ((3 : Int32) * l3))) (I m_lampFrom (Int32.toNatClampNeg l3))) fun I21 =>
      bx l3 60 <|
      bx ((l2 + ((3 : Int32) * l3)) + (1 : Int32)) 416 <|
      lb (ui I21 m_kept (Int32.toNatClampNeg ((l2 + ((3 : Int32) * l3)) + (1 : Int32))) (I21 m_lampTo (Int32.toNatClampNeg l3))) fun I22 =>
      bx l3 60 <|
      bx ((l2 + ((3 : Int32) * l3)) + (2 : Int32)) 416 <|
      lb (ui I22 m_kept (Int32.toNatClampNeg ((l2 + ((3 : Int32) * l3)) + (2 : Int32))) (I22 m_volts (Int32.toNatClampNeg l3))) fun I23 =>
      F_X12_keep_L42 l1 l2 J kx106 K (l3 + 1) I23
set_option maxRecDepth 100000 in
theorem s_X12_keep_L42 (b : Bool) (l1 : Int32) (l2 : Int32) (J : HJ) (kx106 : HI → Option (Int32 × HI × HJ)) (hkx106 : ∀ (I1 : HI), S (fI (zs b)) mX12_keep (rmd 2 0 0) 0 0 (0, 0) 106 [(0, .ref 81), (1, .int l1), (2, .int l2)] [] (zs b, I1, J) (kx106 I1)) : ∀ (K : Nat) (l3 : Int32) (I : HI), S (fI (zs b)) mX12_keep (rmd 2 0 0) 0 0 (0, 0) 42 [(0, .ref 81), (1, .int l1), (2, .int l2), (3, .int l3)] [] (zs b, I, J) (F_X12_keep_L42 l1 l2 J kx106 K l3 I) := by
  intro K
  induction K with
  | zero => intro l3 I; exact S.none
  | succ K ih =>
    intro l3 I
    rw [F_X12_keep_L42]
    refine S.iload_n 28 3 rfl rfl ?_
    refine S.bipush (60 : Int32) 29 rfl (by decide) ?_
    refine S.icmp_ge 106 30 rfl (by decide) (fun _ => ?_) (fun _ => ?_)
    · refine S.sub (lv' := [(0, .ref 81), (1, .int l1), (2, .int l2)]) [0, 1, 2] rfl ?_
      exact hkx106 _
    · refine S.aload_n 31 0 rfl rfl ?_
      refine S.getR 32 rfl fo_X12_147 rfl rfl rfl ?_
      refine S.iload_n 33 2 rfl rfl ?_
      refine S.iconst (3 : Int32) 34 rfl (by decide) ?_
      refine S.iload_n 35 3 rfl rfl ?_
      refine S.imul 36 rfl ?_
      refine S.iadd 37 rfl ?_
      refine S.aload_n 38 0 rfl rfl ?_
      refine S.getR 39 rfl fo_X12_13 rfl rfl rfl ?_
      refine S.iload_n 40 3 rfl rfl ?_
      refine S.iald 41 rfl rfl ?_
      refine S.iast 42 rfl rfl (fun I21 => ?_)
      refine S.aload_n 43 0 rfl rfl ?_
      refine S.getR 44 rfl fo_X12_147 rfl rfl rfl ?_
      refine S.iload_n 45 2 rfl rfl ?_
      refine S.iconst (3 : Int32) 46 rfl (by decide) ?_
      refine S.iload_n 47 3 rfl rfl ?_
      refine S.imul 48 rfl ?_
      refine S.iadd 49 rfl ?_
      refine S.iconst (1 : Int32) 50 rfl (by decide) ?_
      refine S.iadd 51 rfl ?_
      refine S.aload_n 52 0 rfl rfl ?_
      refine S.getR 53 rfl fo_X12_17 rfl rfl rfl ?_
      refine S.iload_n 54 3 rfl rfl ?_
      refine S.iald 55 rfl rfl ?_
      refine S.iast 56 rfl rfl (fun I22 => ?_)
      refine S.aload_n 57 0 rfl rfl ?_
      refine S.getR 58 rfl fo_X12_147 rfl rfl rfl ?_
      refine S.iload_n 59 2 rfl rfl ?_
      refine S.iconst (3 : Int32) 60 rfl (by decide) ?_
      refine S.iload_n 61 3 rfl rfl ?_
      refine S.imul 62 rfl ?_
      refine S.iadd 63 rfl ?_
      refine S.iconst (2 : Int32) 64 rfl (by decide) ?_
      refine S.iadd 65 rfl ?_
      refine S.aload_n 66 0 rfl rfl ?_
      refine S.getR 67 rfl fo_X12_20 rfl rfl rfl ?_
      refine S.iload_n 68 3 rfl rfl ?_
      refine S.iald 69 rfl rfl ?_
      refine S.iast 70 rfl rfl (fun I23 => ?_)
      refine S.iinc (l3 + 1) [(3, .int (l3 + 1)), (0, .ref 81), (1, .int l1), (2, .int l2)] 71 3 rfl rfl rfl (by decide) rfl ?_
      refine S.goto 42 72 rfl (by decide) ?_
      refine S.sub (lv' := [(0, .ref 81), (1, .int l1), (2, .int l2), (3, .int (l3 + 1))]) [1, 2, 3, 0] rfl ?_
      exact ih _ _
def F_X12_keep_L160 (l1 : Int32) (l2 : Int32) (kx227 : HI → HJ → Option (Int32 × HI × HJ)) : Nat → Int32 → HI → HJ → Option (Int32 × HI × HJ)
  | 0, _, _, _ => none
  | K+1, l3, I, J =>
    if (12 : Int32) ≤ l3 then
      kx227 I J
    else
      bx l3 12 <|
      bx ((l2 + (4 : Int32)) + ((2 : Int32) * l3)) 416 <|
      lb (ui I m_kept (Int32.toNatClampNeg ((l2 + (4 : Int32)) + ((2 : Int32) * l3))) (I m_seenHigh (Int32.toNatClampNeg l3))) fun I29 =>
      bx l3 12 <|
      bx ((l2 + (5 : Int32)) + ((2 : Int32) * l3)) 416 <|
      lb (ui I29 m_kept (Int32.toNatClampNeg ((l2 + (5 : Int32)) + ((2 : Int32) * l3))) (I29 m_seenLow (Int32.toNatClampNeg l3))) fun I30 =>
      bx l3 12 <|
      bx ((((16 : Int32) * l1) + (4 : Int32)) + l3) 32 <|
      lb (uj J m_keptSets (Int32.toNatClampNeg ((((16 : Int32) * l1) + (4 : Int32)) + l3)) (J m_seenLamps (Int32.toNatClampNeg l3))) fun J31 =>
      F_X12_keep_L160 l1 l2 kx227 K (l3 + 1) I30 J31
set_option maxRecDepth 100000 in
theorem s_X12_keep_L160 (b : Bool) (l1 : Int32) (l2 : Int32) (kx227 : HI → HJ → Option (Int32 × HI × HJ)) (hkx227 : ∀ (I1 : HI) (J1 : HJ), S (fI (zs b)) mX12_keep (rmd 2 0 0) 0 0 (0, 0) 227 [(0, .ref 81), (1, .int l1)] [] (zs b, I1, J1) (kx227 I1 J1)) : ∀ (K : Nat) (l3 : Int32) (I : HI) (J : HJ), S (fI (zs b)) mX12_keep (rmd 2 0 0) 0 0 (0, 0) 160 [(0, .ref 81), (1, .int l1), (2, .int l2), (3, .int l3)] [] (zs b, I, J) (F_X12_keep_L160 l1 l2 kx227 K l3 I J) := by
  intro K
  induction K with
  | zero => intro l3 I J; exact S.none
  | succ K ih =>
    intro l3 I J
    rw [F_X12_keep_L160]
    refine S.iload_n 106 3 rfl rfl ?_
    refine S.bipush (12 : Int32) 107 rfl (by decide) ?_
    refine S.icmp_ge 227 108 rfl (by decide) (fun _ => ?_) (fun _ => ?_)
    · refine S.sub (lv' := [(0, .ref 81), (1, .int l1)]) [0, 1] rfl ?_
      exact hkx227 _ _
    · refine S.aload_n 109 0 rfl rfl ?_
      refine S.getR 110 rfl fo_X12_147 rfl rfl rfl ?_
      refine S.iload_n 111 2 rfl rfl ?_
      refine S.iconst (4 : Int32) 112 rfl (by decide) ?_
      refine S.iadd 113 rfl ?_
      refine S.iconst (2 : Int32) 114 rfl (by decide) ?_
      refine S.iload_n 115 3 rfl rfl ?_
      refine S.imul 116 rfl ?_
      refine S.iadd 117 rfl ?_
      refine S.aload_n 118 0 rfl rfl ?_
      refine S.getR 119 rfl fo_X12_116 rfl rfl rfl ?_
      refine S.iload_n 120 3 rfl rfl ?_
      refine S.iald 121 rfl rfl ?_
      refine S.iast 122 rfl rfl (fun I29 => ?_)
      refine S.aload_n 123 0 rfl rfl ?_
      refine S.getR 124 rfl fo_X12_147 rfl rfl rfl ?_
      refine S.iload_n 125 2 rfl rfl ?_
      refine S.iconst (5 : Int32) 126 rfl (by decide) ?_
      refine S.iadd 127 rfl ?_
      refine S.iconst (2 : Int32) 128 rfl (by decide) ?_
      refine S.iload_n 129 3 rfl rfl ?_
      refine S.imul 130 rfl ?_
      refine S.iadd 131 rfl ?_
      refine S.aload_n 132 0 rfl rfl ?_
      refine S.getR 133 rfl fo_X12_119 rfl rfl rfl ?_
      refine S.iload_n 134 3 rfl rfl ?_
      refine S.iald 135 rfl rfl ?_
      refine S.iast 136 rfl rfl (fun I30 => ?_)
      refine S.aload_n 137 0 rfl rfl ?_
      refine S.getR 138 rfl fo_X12_150 rfl rfl rfl ?_
      refine S.bipush (16 : Int32) 139 rfl (by decide) ?_
      refine S.iload_n 140 1 rfl rfl ?_
      refine S.imul 141 rfl ?_
      refine S.iconst (4 : Int32) 142 rfl (by decide) ?_
      refine S.iadd 143 rfl ?_
      refine S.iload_n 144 3 rfl rfl ?_
      refine S.iadd 145 rfl ?_
      refine S.aload_n 146 0 rfl rfl ?_
      refine S.getR 147 rfl fo_X12_122 rfl rfl rfl ?_
      refine S.iload_n 148 3 rfl rfl ?_
      refine S.lald 149 rfl rfl ?_
      refine S.last 150 rfl rfl (fun J31 => ?_)
      refine S.iinc (l3 + 1) [(3, .int (l3 + 1)), (0, .ref 81), (1, .int l1), (2, .int l2)] 151 3 rfl rfl rfl (by decide) rfl ?_
      refine S.goto 160 152 rfl (by decide) ?_
      refine S.sub (lv' := [(0, .ref 81), (1, .int l1), (2, .int l2), (3, .int (l3 + 1))]) [1, 2, 3, 0] rfl ?_
      exact ih _ _ _
def F_X12_keep_L229 (l1 : Int32) (I : HI) : Nat → Int32 → HJ → Option (Int32 × HI × HJ)
  | 0, _, _ => none
  | K+1, l3, J =>
    if (4 : Int32) ≤ l3 then
      some ((1 : Int32), I, J)
    else
      bx l3 4 <|
      bx (((16 : Int32) * l1) + l3) 32 <|
      lb (uj J m_keptSets (Int32.toNatClampNeg (((16 : Int32) * l1) + l3)) (J m_pictures (Int32.toNatClampNeg l3))) fun J34 =>
      F_X12_keep_L229 l1 I K (l3 + 1) J34
set_option maxRecDepth 100000 in
theorem s_X12_keep_L229 (b : Bool) (l1 : Int32) (I : HI) : ∀ (K : Nat) (l3 : Int32) (J : HJ), S (fI (zs b)) mX12_keep (rmd 2 0 0) 0 0 (0, 0) 229 [(0, .ref 81), (1, .int l1), (3, .int l3)] [] (zs b, I, J) (F_X12_keep_L229 l1 I K l3 J) := by
  intro K
  induction K with
  | zero => intro l3 J; exact S.none
  | succ K ih =>
    intro l3 J
    rw [F_X12_keep_L229]
    refine S.iload_n 155 2 rfl rfl ?_
    refine S.iconst (4 : Int32) 156 rfl (by decide) ?_
    refine S.icmp_ge 257 157 rfl (by decide) (fun _ => ?_) (fun _ => ?_)
    · refine S.iconst (1 : Int32) 172 rfl (by decide) ?_
      exact S.iret 173 rfl rfl rfl (Nat.le_refl _) (Nat.le_refl _) rfl
    · refine S.aload_n 158 0 rfl rfl ?_
      refine S.getR 159 rfl fo_X12_150 rfl rfl rfl ?_
      refine S.bipush (16 : Int32) 160 rfl (by decide) ?_
      refine S.iload_n 161 1 rfl rfl ?_
      refine S.imul 162 rfl ?_
      refine S.iload_n 163 2 rfl rfl ?_
      refine S.iadd 164 rfl ?_
      refine S.aload_n 165 0 rfl rfl ?_
      refine S.getR 166 rfl fo_X12_77 rfl rfl rfl ?_
      refine S.iload_n 167 2 rfl rfl ?_
      refine S.lald 168 rfl rfl ?_
      refine S.last 169 rfl rfl (fun J34 => ?_)
      refine S.iinc (l3 + 1) [(3, .int (l3 + 1)), (0, .ref 81), (1, .int l1)] 170 2 rfl rfl rfl (by decide) rfl ?_
      refine S.goto 229 171 rfl (by decide) ?_
      refine S.sub (lv' := [(0, .ref 81), (1, .int l1), (3, .int (l3 + 1))]) [1, 2, 0] rfl ?_
      exact ih _ _
def F_X12_keep (l1 : Int32) (I : HI) (J : HJ) : Option (Int32 × HI × HJ) :=
  lb (ui I m_self f_Model_thrown (0 : Int32)) fun I16 =>
  cp (F_X12_in (Int32.toInt64 l1) (0 : Int64) (1 : Int64)) fun r17 =>
  if r17 = 0 then
    some ((0 : Int32), I16, J)
  else
    bx l1 2 <|
    lb (ui I16 m_isKept (Int32.toNatClampNeg l1) (vp_nar .boolean (1 : Int32))) fun I18 =>
    bx l1 2 <|
    lb (ui I18 m_keptBoards (Int32.toNatClampNeg l1) (I18 m_self f_Model_boards)) fun I19 =>
    lb (((208 : Int32) * l1)) fun x20 =>
    F_X12_keep_L42 l1 x20 J (fun (I24 : HI) =>
    bx (x20 + 180) 416 <|
    lb (ui I24 m_kept (Int32.toNatClampNeg (x20 + 180)) (I24 m_self f_Model_lamps)) fun I25 =>
    bx ((x20 + 180) + (1 : Int32)) 416 <|
    lb (ui I25 m_kept (Int32.toNatClampNeg ((x20 + 180) + (1 : Int32))) (I25 m_self f_Model_shownHigh)) fun I26 =>
    bx ((x20 + 180) + (2 : Int32)) 416 <|
    lb (ui I26 m_kept (Int32.toNatClampNeg ((x20 + 180) + (2 : Int32))) (I26 m_self f_Model_shownLow)) fun I27 =>
    bx ((x20 + 180) + (3 : Int32)) 416 <|
    lb (ui I27 m_kept (Int32.toNatClampNeg ((x20 + 180) + (3 : Int32))) (I27 m_self f_Model_seenMany)) fun I28 =>
    F_X12_keep_L160 l1 (x20 + 180) (fun (I32 : HI) (J33 : HJ) =>
    F_X12_keep_L229 l1 I32 bgf (0 : Int32) J33) bgf (0 : Int32) I28 J) bgf (0 : Int32) I19
set_option maxRecDepth 100000 in
theorem cm_X12_keep (b : Bool) (l1 : Int32) (I : HI) (J : HJ) : CM mX12_keep 2 0 0 [.ref 81, .int l1] (zs b, I, J) (fI (zs b)) (F_X12_keep l1 I J) := by
  refine S.of okX12_keep pn_X12 (Nat.le_of_ble_eq_true rfl) ?_
  refine S.sub (lv' := [(0, .ref 81), (1, .int l1)]) [0, 1] rfl ?_
  unfold F_X12_keep
  refine S.aload_n 0 0 rfl rfl ?_
  refine S.iconst (0 : Int32) 1 rfl (by decide) ?_
  refine S.putI 2 rfl fo_X12_159 rfl rfl rfl rfl (fun _ hq => by cases hq; exact Or.inl rfl) (fun I16 => ?_)
  refine S.iload_n 3 1 rfl rfl ?_
  refine S.i2l 4 rfl ?_
  refine S.lconst (0 : Int64) 5 rfl (by decide) ?_
  refine S.lconst (1 : Int64) 6 rfl (by decide) ?_
  refine S.qSI (d := 1) (av := [.long (Int32.toInt64 l1), .long (0 : Int64), .long (1 : Int64)]) (rs := [.long (1 : Int64), .long (0 : Int64), .long (Int32.toInt64 l1)]) 7 rfl co_X12_165 rfl rfl ⟨⟨Nat.le_of_ble_eq_true rfl, Nat.le_of_ble_eq_true rfl⟩, ⟨Nat.le_of_ble_eq_true rfl, Nat.le_of_ble_eq_true rfl⟩, Nat.le_of_ble_eq_true rfl⟩ (cm_X12_in (zs b, I16, J) (Int32.toInt64 l1) (0 : Int64) (1 : Int64)) (fun r17 => ?_)
  refine S.if_ne 17 8 rfl (by decide) (fun _ => ?_) (fun _ => ?_)
  · refine S.aload_n 11 0 rfl rfl ?_
    refine S.getR 12 rfl fo_X12_153 rfl rfl rfl ?_
    refine S.iload_n 13 1 rfl rfl ?_
    refine S.iconst (1 : Int32) 14 rfl (by decide) ?_
    refine S.zast 15 rfl rfl (fun I18 => ?_)
    refine S.aload_n 16 0 rfl rfl ?_
    refine S.getR 17 rfl fo_X12_156 rfl rfl rfl ?_
    refine S.iload_n 18 1 rfl rfl ?_
    refine S.aload_n 19 0 rfl rfl ?_
    refine S.getI 20 rfl fo_X12_223 rfl rfl ?_
    refine S.iast 21 rfl rfl (fun I19 => ?_)
    refine S.sipush (208 : Int32) 22 rfl (by decide) ?_
    refine S.iload_n 23 1 rfl rfl ?_
    refine S.imul 24 rfl ?_
    refine S.nmi (fun x20 => ?_)
    refine S.istore_n [(2, .int x20), (0, .ref 81), (1, .int l1)] 25 rfl (by decide) rfl ?_
    refine S.iconst (0 : Int32) 26 rfl (by decide) ?_
    refine S.istore_n [(3, .int (0 : Int32)), (2, .int x20), (0, .ref 81), (1, .int l1)] 27 rfl (by decide) rfl ?_
    refine S.sub (lv' := [(0, .ref 81), (1, .int l1), (2, .int x20), (3, .int (0 : Int32))]) [2, 3, 1, 0] rfl ?_
    refine s_X12_keep_L42 b _ _ _ _ (fun I24 => ?_) bgf _ _
    refine S.iincW (x20 + 180) [(2, .int (x20 + 180)), (0, .ref 81), (1, .int l1)] 73 2 rfl rfl rfl (by decide) rfl ?_
    refine S.aload_n 74 1 rfl rfl ?_
    refine S.getR 75 rfl fo_X12_147 rfl rfl rfl ?_
    refine S.iload_n 76 0 rfl rfl ?_
    refine S.aload_n 77 1 rfl rfl ?_
    refine S.getI 78 rfl fo_X12_169 rfl rfl ?_
    refine S.iast 79 rfl rfl (fun I25 => ?_)
    refine S.aload_n 80 1 rfl rfl ?_
    refine S.getR 81 rfl fo_X12_147 rfl rfl rfl ?_
    refine S.iload_n 82 0 rfl rfl ?_
    refine S.iconst (1 : Int32) 83 rfl (by decide) ?_
    refine S.iadd 84 rfl ?_
    refine S.aload_n 85 1 rfl rfl ?_
    refine S.getI 86 rfl fo_X12_211 rfl rfl ?_
    refine S.iast 87 rfl rfl (fun I26 => ?_)
    refine S.aload_n 88 1 rfl rfl ?_
    refine S.getR 89 rfl fo_X12_147 rfl rfl rfl ?_
    refine S.iload_n 90 0 rfl rfl ?_
    refine S.iconst (2 : Int32) 91 rfl (by decide) ?_
    refine S.iadd 92 rfl ?_
    refine S.aload_n 93 1 rfl rfl ?_
    refine S.getI 94 rfl fo_X12_214 rfl rfl ?_
    refine S.iast 95 rfl rfl (fun I27 => ?_)
    refine S.aload_n 96 1 rfl rfl ?_
    refine S.getR 97 rfl fo_X12_147 rfl rfl rfl ?_
    refine S.iload_n 98 0 rfl rfl ?_
    refine S.iconst (3 : Int32) 99 rfl (by decide) ?_
    refine S.iadd 100 rfl ?_
    refine S.aload_n 101 1 rfl rfl ?_
    refine S.getI 102 rfl fo_X12_217 rfl rfl ?_
    refine S.iast 103 rfl rfl (fun I28 => ?_)
    refine S.iconst (0 : Int32) 104 rfl (by decide) ?_
    refine S.istore_n [(3, .int (0 : Int32)), (2, .int (x20 + 180)), (0, .ref 81), (1, .int l1)] 105 rfl (by decide) rfl ?_
    refine S.sub (lv' := [(0, .ref 81), (1, .int l1), (2, .int (x20 + 180)), (3, .int (0 : Int32))]) [2, 3, 1, 0] rfl ?_
    refine s_X12_keep_L160 b _ _ _ (fun I32 J33 => ?_) bgf _ _ _
    refine S.iconst (0 : Int32) 153 rfl (by decide) ?_
    refine S.istore_n [(3, .int (0 : Int32)), (0, .ref 81), (1, .int l1)] 154 rfl (by decide) rfl ?_
    refine S.sub (lv' := [(0, .ref 81), (1, .int l1), (3, .int (0 : Int32))]) [1, 2, 0] rfl ?_
    refine s_X12_keep_L229 b _ _ bgf _ _
  · refine S.iconst (0 : Int32) 9 rfl (by decide) ?_
    exact S.iret 10 rfl rfl rfl (Nat.le_refl _) (Nat.le_refl _) rfl
def F_X12_again_L47 (l1 : Int32) (l2 : Int32) (J : HJ) (kx111 : HI → Option (Int32 × HI × HJ)) : Nat → Int32 → HI → Option (Int32 × HI × HJ)
  | 0, _, _ => none
  | K+1, l3, I =>
    if (60 : Int32) ≤ l3 then
      kx111 I
    else
      bx (l2 + ((3 : Int32) * l3)) 416 <|
      bx l3 60 <|
      lb (ui I m_lampFrom (Int32.toNatClampNeg l3) (I m_kept (Int32.toNatClampNeg (l2 + ((3 : Int32) * l3))))) fun I17 =>
      bx ((l2 + ((3 : Int32) * l3)) + (1 : Int32)) 416 <|
      bx l3 60 <|
      lb (ui I17 m_lampTo (Int32.toNatClampNeg l3) (I17 m_kept (Int32.toNatClampNeg ((l2 + ((3 : Int32) * l3)) + (1 : Int32))))) fun I18 =>
      bx ((l2 + ((3 : Int32) * l3)) + (2 : Int32)) 416 <|
      bx l3 60 <|
      lb (ui I18 m_volts (Int32.toNatClampNeg l3) (I18 m_kept (Int32.toNatClampNeg ((l2 + ((3 : Int32) * l3)) + (2 : Int32))))) fun I19 =>
      F_X12_again_L47 l1 l2 J kx111 K (l3 + 1) I19
set_option maxRecDepth 100000 in
theorem s_X12_again_L47 (b : Bool) (l1 : Int32) (l2 : Int32) (J : HJ) (kx111 : HI → Option (Int32 × HI × HJ)) (hkx111 : ∀ (I1 : HI), S (fI (zs b)) mX12_again (rmd 2 0 0) 0 0 (0, 0) 111 [(0, .ref 81), (1, .int l1), (2, .int l2)] [] (zs b, I1, J) (kx111 I1)) : ∀ (K : Nat) (l3 : Int32) (I : HI), S (fI (zs b)) mX12_again (rmd 2 0 0) 0 0 (0, 0) 47 [(0, .ref 81), (1, .int l1), (2, .int l2), (3, .int l3)] [] (zs b, I, J) (F_X12_again_L47 l1 l2 J kx111 K l3 I) := by
  intro K
  induction K with
  | zero => intro l3 I; exact S.none
  | succ K ih =>
    intro l3 I
    rw [F_X12_again_L47]
    refine S.iload_n 29 3 rfl rfl ?_
    refine S.bipush (60 : Int32) 30 rfl (by decide) ?_
    refine S.icmp_ge 111 31 rfl (by decide) (fun _ => ?_) (fun _ => ?_)
    · refine S.sub (lv' := [(0, .ref 81), (1, .int l1), (2, .int l2)]) [0, 1, 2] rfl ?_
      exact hkx111 _
    · refine S.aload_n 32 0 rfl rfl ?_
      refine S.getR 33 rfl fo_X12_13 rfl rfl rfl ?_
      refine S.iload_n 34 3 rfl rfl ?_
      refine S.aload_n 35 0 rfl rfl ?_
      refine S.getR 36 rfl fo_X12_147 rfl rfl rfl ?_
      refine S.iload_n 37 2 rfl rfl ?_
      refine S.iconst (3 : Int32) 38 rfl (by decide) ?_
      refine S.iload_n 39 3 rfl rfl ?_
      refine S.imul 40 rfl ?_
      refine S.iadd 41 rfl ?_
      refine S.iald 42 rfl rfl ?_
      refine S.iast 43 rfl rfl (fun I17 => ?_)
      refine S.aload_n 44 0 rfl rfl ?_
      refine S.getR 45 rfl fo_X12_17 rfl rfl rfl ?_
      refine S.iload_n 46 3 rfl rfl ?_
      refine S.aload_n 47 0 rfl rfl ?_
      refine S.getR 48 rfl fo_X12_147 rfl rfl rfl ?_
      refine S.iload_n 49 2 rfl rfl ?_
      refine S.iconst (3 : Int32) 50 rfl (by decide) ?_
      refine S.iload_n 51 3 rfl rfl ?_
      refine S.imul 52 rfl ?_
      refine S.iadd 53 rfl ?_
      refine S.iconst (1 : Int32) 54 rfl (by decide) ?_
      refine S.iadd 55 rfl ?_
      refine S.iald 56 rfl rfl ?_
      refine S.iast 57 rfl rfl (fun I18 => ?_)
      refine S.aload_n 58 0 rfl rfl ?_
      refine S.getR 59 rfl fo_X12_20 rfl rfl rfl ?_
      refine S.iload_n 60 3 rfl rfl ?_
      refine S.aload_n 61 0 rfl rfl ?_
      refine S.getR 62 rfl fo_X12_147 rfl rfl rfl ?_
      refine S.iload_n 63 2 rfl rfl ?_
      refine S.iconst (3 : Int32) 64 rfl (by decide) ?_
      refine S.iload_n 65 3 rfl rfl ?_
      refine S.imul 66 rfl ?_
      refine S.iadd 67 rfl ?_
      refine S.iconst (2 : Int32) 68 rfl (by decide) ?_
      refine S.iadd 69 rfl ?_
      refine S.iald 70 rfl rfl ?_
      refine S.iast 71 rfl rfl (fun I19 => ?_)
      refine S.iinc (l3 + 1) [(3, .int (l3 + 1)), (0, .ref 81), (1, .int l1), (2, .int l2)] 72 3 rfl rfl rfl (by decide) rfl ?_
      refine S.goto 47 73 rfl (by decide) ?_
      refine S.sub (lv' := [(0, .ref 81), (1, .int l1), (2, .int l2), (3, .int (l3 + 1))]) [1, 2, 3, 0] rfl ?_
      exact ih _ _
def F_X12_again_L165 (l1 : Int32) (l2 : Int32) (kx232 : HI → HJ → Option (Int32 × HI × HJ)) : Nat → Int32 → HI → HJ → Option (Int32 × HI × HJ)
  | 0, _, _, _ => none
  | K+1, l3, I, J =>
    if (12 : Int32) ≤ l3 then
      kx232 I J
    else
      bx ((l2 + (4 : Int32)) + ((2 : Int32) * l3)) 416 <|
      bx l3 12 <|
      lb (ui I m_seenHigh (Int32.toNatClampNeg l3) (I m_kept (Int32.toNatClampNeg ((l2 + (4 : Int32)) + ((2 : Int32) * l3))))) fun I25 =>
      bx ((l2 + (5 : Int32)) + ((2 : Int32) * l3)) 416 <|
      bx l3 12 <|
      lb (ui I25 m_seenLow (Int32.toNatClampNeg l3) (I25 m_kept (Int32.toNatClampNeg ((l2 + (5 : Int32)) + ((2 : Int32) * l3))))) fun I26 =>
      bx ((((16 : Int32) * l1) + (4 : Int32)) + l3) 32 <|
      bx l3 12 <|
      lb (uj J m_seenLamps (Int32.toNatClampNeg l3) (J m_keptSets (Int32.toNatClampNeg ((((16 : Int32) * l1) + (4 : Int32)) + l3)))) fun J27 =>
      F_X12_again_L165 l1 l2 kx232 K (l3 + 1) I26 J27
set_option maxRecDepth 100000 in
theorem s_X12_again_L165 (b : Bool) (l1 : Int32) (l2 : Int32) (kx232 : HI → HJ → Option (Int32 × HI × HJ)) (hkx232 : ∀ (I1 : HI) (J1 : HJ), S (fI (zs b)) mX12_again (rmd 2 0 0) 0 0 (0, 0) 232 [(0, .ref 81), (1, .int l1)] [] (zs b, I1, J1) (kx232 I1 J1)) : ∀ (K : Nat) (l3 : Int32) (I : HI) (J : HJ), S (fI (zs b)) mX12_again (rmd 2 0 0) 0 0 (0, 0) 165 [(0, .ref 81), (1, .int l1), (2, .int l2), (3, .int l3)] [] (zs b, I, J) (F_X12_again_L165 l1 l2 kx232 K l3 I J) := by
  intro K
  induction K with
  | zero => intro l3 I J; exact S.none
  | succ K ih =>
    intro l3 I J
    rw [F_X12_again_L165]
    refine S.iload_n 107 3 rfl rfl ?_
    refine S.bipush (12 : Int32) 108 rfl (by decide) ?_
    refine S.icmp_ge 232 109 rfl (by decide) (fun _ => ?_) (fun _ => ?_)
    · refine S.sub (lv' := [(0, .ref 81), (1, .int l1)]) [0, 1] rfl ?_
      exact hkx232 _ _
    · refine S.aload_n 110 0 rfl rfl ?_
      refine S.getR 111 rfl fo_X12_116 rfl rfl rfl ?_
      refine S.iload_n 112 3 rfl rfl ?_
      refine S.aload_n 113 0 rfl rfl ?_
      refine S.getR 114 rfl fo_X12_147 rfl rfl rfl ?_
      refine S.iload_n 115 2 rfl rfl ?_
      refine S.iconst (4 : Int32) 116 rfl (by decide) ?_
      refine S.iadd 117 rfl ?_
      refine S.iconst (2 : Int32) 118 rfl (by decide) ?_
      refine S.iload_n 119 3 rfl rfl ?_
      refine S.imul 120 rfl ?_
      refine S.iadd 121 rfl ?_
      refine S.iald 122 rfl rfl ?_
      refine S.iast 123 rfl rfl (fun I25 => ?_)
      refine S.aload_n 124 0 rfl rfl ?_
      refine S.getR 125 rfl fo_X12_119 rfl rfl rfl ?_
      refine S.iload_n 126 3 rfl rfl ?_
      refine S.aload_n 127 0 rfl rfl ?_
      refine S.getR 128 rfl fo_X12_147 rfl rfl rfl ?_
      refine S.iload_n 129 2 rfl rfl ?_
      refine S.iconst (5 : Int32) 130 rfl (by decide) ?_
      refine S.iadd 131 rfl ?_
      refine S.iconst (2 : Int32) 132 rfl (by decide) ?_
      refine S.iload_n 133 3 rfl rfl ?_
      refine S.imul 134 rfl ?_
      refine S.iadd 135 rfl ?_
      refine S.iald 136 rfl rfl ?_
      refine S.iast 137 rfl rfl (fun I26 => ?_)
      refine S.aload_n 138 0 rfl rfl ?_
      refine S.getR 139 rfl fo_X12_122 rfl rfl rfl ?_
      refine S.iload_n 140 3 rfl rfl ?_
      refine S.aload_n 141 0 rfl rfl ?_
      refine S.getR 142 rfl fo_X12_150 rfl rfl rfl ?_
      refine S.bipush (16 : Int32) 143 rfl (by decide) ?_
      refine S.iload_n 144 1 rfl rfl ?_
      refine S.imul 145 rfl ?_
      refine S.iconst (4 : Int32) 146 rfl (by decide) ?_
      refine S.iadd 147 rfl ?_
      refine S.iload_n 148 3 rfl rfl ?_
      refine S.iadd 149 rfl ?_
      refine S.lald 150 rfl rfl ?_
      refine S.last 151 rfl rfl (fun J27 => ?_)
      refine S.iinc (l3 + 1) [(3, .int (l3 + 1)), (0, .ref 81), (1, .int l1), (2, .int l2)] 152 3 rfl rfl rfl (by decide) rfl ?_
      refine S.goto 165 153 rfl (by decide) ?_
      refine S.sub (lv' := [(0, .ref 81), (1, .int l1), (2, .int l2), (3, .int (l3 + 1))]) [1, 2, 3, 0] rfl ?_
      exact ih _ _ _
def F_X12_again_L234 (l1 : Int32) (I : HI) : Nat → Int32 → HJ → Option (Int32 × HI × HJ)
  | 0, _, _ => none
  | K+1, l3, J =>
    if (4 : Int32) ≤ l3 then
      some ((1 : Int32), I, J)
    else
      bx (((16 : Int32) * l1) + l3) 32 <|
      bx l3 4 <|
      lb (uj J m_pictures (Int32.toNatClampNeg l3) (J m_keptSets (Int32.toNatClampNeg (((16 : Int32) * l1) + l3)))) fun J30 =>
      F_X12_again_L234 l1 I K (l3 + 1) J30
set_option maxRecDepth 100000 in
theorem s_X12_again_L234 (b : Bool) (l1 : Int32) (I : HI) : ∀ (K : Nat) (l3 : Int32) (J : HJ), S (fI (zs b)) mX12_again (rmd 2 0 0) 0 0 (0, 0) 234 [(0, .ref 81), (1, .int l1), (3, .int l3)] [] (zs b, I, J) (F_X12_again_L234 l1 I K l3 J) := by
  intro K
  induction K with
  | zero => intro l3 J; exact S.none
  | succ K ih =>
    intro l3 J
    rw [F_X12_again_L234]
    refine S.iload_n 156 2 rfl rfl ?_
    refine S.iconst (4 : Int32) 157 rfl (by decide) ?_
    refine S.icmp_ge 262 158 rfl (by decide) (fun _ => ?_) (fun _ => ?_)
    · refine S.iconst (1 : Int32) 173 rfl (by decide) ?_
      exact S.iret 174 rfl rfl rfl (Nat.le_refl _) (Nat.le_refl _) rfl
    · refine S.aload_n 159 0 rfl rfl ?_
      refine S.getR 160 rfl fo_X12_77 rfl rfl rfl ?_
      refine S.iload_n 161 2 rfl rfl ?_
      refine S.aload_n 162 0 rfl rfl ?_
      refine S.getR 163 rfl fo_X12_150 rfl rfl rfl ?_
      refine S.bipush (16 : Int32) 164 rfl (by decide) ?_
      refine S.iload_n 165 1 rfl rfl ?_
      refine S.imul 166 rfl ?_
      refine S.iload_n 167 2 rfl rfl ?_
      refine S.iadd 168 rfl ?_
      refine S.lald 169 rfl rfl ?_
      refine S.last 170 rfl rfl (fun J30 => ?_)
      refine S.iinc (l3 + 1) [(3, .int (l3 + 1)), (0, .ref 81), (1, .int l1)] 171 2 rfl rfl rfl (by decide) rfl ?_
      refine S.goto 234 172 rfl (by decide) ?_
      refine S.sub (lv' := [(0, .ref 81), (1, .int l1), (3, .int (l3 + 1))]) [1, 2, 0] rfl ?_
      exact ih _ _
def F_X12_again (l1 : Int32) (I : HI) (J : HJ) : Option (Int32 × HI × HJ) :=
  lb (ui I m_self f_Model_thrown (0 : Int32)) fun I14 =>
  cp (F_X12_in (Int32.toInt64 l1) (0 : Int64) (1 : Int64)) fun r15 =>
  if r15 = 0 then
    some ((0 : Int32), I14, J)
  else
    bx l1 2 <|
    if (I14 m_isKept (Int32.toNatClampNeg l1)) = 0 then
      some ((0 : Int32), I14, J)
    else
      bx l1 2 <|
      if (I14 m_keptBoards (Int32.toNatClampNeg l1)) = (I14 m_self f_Model_boards) then
        lb (((208 : Int32) * l1)) fun x16 =>
        F_X12_again_L47 l1 x16 J (fun (I20 : HI) =>
        bx (x16 + 180) 416 <|
        lb (ui I20 m_self f_Model_lamps (I20 m_kept (Int32.toNatClampNeg (x16 + 180)))) fun I21 =>
        bx ((x16 + 180) + (1 : Int32)) 416 <|
        lb (ui I21 m_self f_Model_shownHigh (I21 m_kept (Int32.toNatClampNeg ((x16 + 180) + (1 : Int32))))) fun I22 =>
        bx ((x16 + 180) + (2 : Int32)) 416 <|
        lb (ui I22 m_self f_Model_shownLow (I22 m_kept (Int32.toNatClampNeg ((x16 + 180) + (2 : Int32))))) fun I23 =>
        bx ((x16 + 180) + (3 : Int32)) 416 <|
        lb (ui I23 m_self f_Model_seenMany (I23 m_kept (Int32.toNatClampNeg ((x16 + 180) + (3 : Int32))))) fun I24 =>
        F_X12_again_L165 l1 (x16 + 180) (fun (I28 : HI) (J29 : HJ) =>
        F_X12_again_L234 l1 I28 bgf (0 : Int32) J29) bgf (0 : Int32) I24 J) bgf (0 : Int32) I14
      else
        some ((0 : Int32), I14, J)
set_option maxRecDepth 100000 in
theorem cm_X12_again (b : Bool) (l1 : Int32) (I : HI) (J : HJ) : CM mX12_again 2 0 0 [.ref 81, .int l1] (zs b, I, J) (fI (zs b)) (F_X12_again l1 I J) := by
  refine S.of okX12_again pn_X12 (Nat.le_of_ble_eq_true rfl) ?_
  refine S.sub (lv' := [(0, .ref 81), (1, .int l1)]) [0, 1] rfl ?_
  unfold F_X12_again
  refine S.aload_n 0 0 rfl rfl ?_
  refine S.iconst (0 : Int32) 1 rfl (by decide) ?_
  refine S.putI 2 rfl fo_X12_159 rfl rfl rfl rfl (fun _ hq => by cases hq; exact Or.inl rfl) (fun I14 => ?_)
  refine S.iload_n 3 1 rfl rfl ?_
  refine S.i2l 4 rfl ?_
  refine S.lconst (0 : Int64) 5 rfl (by decide) ?_
  refine S.lconst (1 : Int64) 6 rfl (by decide) ?_
  refine S.qSI (d := 1) (av := [.long (Int32.toInt64 l1), .long (0 : Int64), .long (1 : Int64)]) (rs := [.long (1 : Int64), .long (0 : Int64), .long (Int32.toInt64 l1)]) 7 rfl co_X12_165 rfl rfl ⟨⟨Nat.le_of_ble_eq_true rfl, Nat.le_of_ble_eq_true rfl⟩, ⟨Nat.le_of_ble_eq_true rfl, Nat.le_of_ble_eq_true rfl⟩, Nat.le_of_ble_eq_true rfl⟩ (cm_X12_in (zs b, I14, J) (Int32.toInt64 l1) (0 : Int64) (1 : Int64)) (fun r15 => ?_)
  refine S.if_eq 37 8 rfl (by decide) (fun _ => ?_) (fun _ => ?_)
  · refine S.iconst (0 : Int32) 21 rfl (by decide) ?_
    exact S.iret 22 rfl rfl rfl (Nat.le_refl _) (Nat.le_refl _) rfl
  · refine S.aload_n 9 0 rfl rfl ?_
    refine S.getR 10 rfl fo_X12_153 rfl rfl rfl ?_
    refine S.iload_n 11 1 rfl rfl ?_
    refine S.zald 12 rfl rfl ?_
    refine S.if_eq 37 13 rfl (by decide) (fun _ => ?_) (fun _ => ?_)
    · refine S.iconst (0 : Int32) 21 rfl (by decide) ?_
      exact S.iret 22 rfl rfl rfl (Nat.le_refl _) (Nat.le_refl _) rfl
    · refine S.aload_n 14 0 rfl rfl ?_
      refine S.getR 15 rfl fo_X12_156 rfl rfl rfl ?_
      refine S.iload_n 16 1 rfl rfl ?_
      refine S.iald 17 rfl rfl ?_
      refine S.aload_n 18 0 rfl rfl ?_
      refine S.getI 19 rfl fo_X12_223 rfl rfl ?_
      refine S.icmp_eq 39 20 rfl (by decide) (fun _ => ?_) (fun _ => ?_)
      · refine S.sipush (208 : Int32) 23 rfl (by decide) ?_
        refine S.iload_n 24 1 rfl rfl ?_
        refine S.imul 25 rfl ?_
        refine S.nmi (fun x16 => ?_)
        refine S.istore_n [(2, .int x16), (0, .ref 81), (1, .int l1)] 26 rfl (by decide) rfl ?_
        refine S.iconst (0 : Int32) 27 rfl (by decide) ?_
        refine S.istore_n [(3, .int (0 : Int32)), (2, .int x16), (0, .ref 81), (1, .int l1)] 28 rfl (by decide) rfl ?_
        refine S.sub (lv' := [(0, .ref 81), (1, .int l1), (2, .int x16), (3, .int (0 : Int32))]) [2, 3, 1, 0] rfl ?_
        refine s_X12_again_L47 b _ _ _ _ (fun I20 => ?_) bgf _ _
        refine S.iincW (x16 + 180) [(2, .int (x16 + 180)), (0, .ref 81), (1, .int l1)] 74 2 rfl rfl rfl (by decide) rfl ?_
        refine S.aload_n 75 1 rfl rfl ?_
        refine S.aload_n 76 1 rfl rfl ?_
        refine S.getR 77 rfl fo_X12_147 rfl rfl rfl ?_
        refine S.iload_n 78 0 rfl rfl ?_
        refine S.iald 79 rfl rfl ?_
        refine S.putI 80 rfl fo_X12_169 rfl rfl rfl rfl (fun _ hq => by cases hq; exact Or.inl rfl) (fun I21 => ?_)
        refine S.aload_n 81 1 rfl rfl ?_
        refine S.aload_n 82 1 rfl rfl ?_
        refine S.getR 83 rfl fo_X12_147 rfl rfl rfl ?_
        refine S.iload_n 84 0 rfl rfl ?_
        refine S.iconst (1 : Int32) 85 rfl (by decide) ?_
        refine S.iadd 86 rfl ?_
        refine S.iald 87 rfl rfl ?_
        refine S.putI 88 rfl fo_X12_211 rfl rfl rfl rfl (fun _ hq => by cases hq; exact Or.inl rfl) (fun I22 => ?_)
        refine S.aload_n 89 1 rfl rfl ?_
        refine S.aload_n 90 1 rfl rfl ?_
        refine S.getR 91 rfl fo_X12_147 rfl rfl rfl ?_
        refine S.iload_n 92 0 rfl rfl ?_
        refine S.iconst (2 : Int32) 93 rfl (by decide) ?_
        refine S.iadd 94 rfl ?_
        refine S.iald 95 rfl rfl ?_
        refine S.putI 96 rfl fo_X12_214 rfl rfl rfl rfl (fun _ hq => by cases hq; exact Or.inl rfl) (fun I23 => ?_)
        refine S.aload_n 97 1 rfl rfl ?_
        refine S.aload_n 98 1 rfl rfl ?_
        refine S.getR 99 rfl fo_X12_147 rfl rfl rfl ?_
        refine S.iload_n 100 0 rfl rfl ?_
        refine S.iconst (3 : Int32) 101 rfl (by decide) ?_
        refine S.iadd 102 rfl ?_
        refine S.iald 103 rfl rfl ?_
        refine S.putI 104 rfl fo_X12_217 rfl rfl rfl rfl (fun _ hq => by cases hq; exact Or.inl rfl) (fun I24 => ?_)
        refine S.iconst (0 : Int32) 105 rfl (by decide) ?_
        refine S.istore_n [(3, .int (0 : Int32)), (2, .int (x16 + 180)), (0, .ref 81), (1, .int l1)] 106 rfl (by decide) rfl ?_
        refine S.sub (lv' := [(0, .ref 81), (1, .int l1), (2, .int (x16 + 180)), (3, .int (0 : Int32))]) [2, 3, 1, 0] rfl ?_
        refine s_X12_again_L165 b _ _ _ (fun I28 J29 => ?_) bgf _ _ _
        refine S.iconst (0 : Int32) 154 rfl (by decide) ?_
        refine S.istore_n [(3, .int (0 : Int32)), (0, .ref 81), (1, .int l1)] 155 rfl (by decide) rfl ?_
        refine S.sub (lv' := [(0, .ref 81), (1, .int l1), (3, .int (0 : Int32))]) [1, 2, 0] rfl ?_
        refine s_X12_again_L234 b _ _ bgf _ _
      · refine S.iconst (0 : Int32) 21 rfl (by decide) ?_
        exact S.iret 22 rfl rfl rfl (Nat.le_refl _) (Nat.le_refl _) rfl
def F_X12_count (l1 : Int32) (I : HI) (J : HJ) : Option (Int32 × HI × HJ) :=
  lb (ui I m_self f_Model_thrown (0 : Int32)) fun I2 =>
  if l1 = 0 then
    some ((I2 m_self f_Model_wide), I2, J)
  else if l1 = 1 then
    some ((I2 m_self f_Model_lamps), I2, J)
  else if l1 = 2 then
    bx (0 : Int32) 3 <|
    some ((I2 m_sets (Int32.toNatClampNeg (0 : Int32))), I2, J)
  else if l1 = 3 then
    some ((I2 m_self f_Model_shownHigh), I2, J)
  else if l1 = 4 then
    some ((I2 m_self f_Model_shownLow), I2, J)
  else if l1 = 5 then
    some ((I2 m_self f_Model_seenMany), I2, J)
  else if l1 = 6 then
    some ((I2 m_self f_Model_testMany), I2, J)
  else if l1 = 7 then
    some ((I2 m_self f_Model_rowMany), I2, J)
  else if l1 = 8 then
    some ((I2 m_self f_Model_typed), I2, J)
  else 
    some ((-1 : Int32), I2, J)
set_option maxRecDepth 100000 in
theorem cm_X12_count (b : Bool) (l1 : Int32) (I : HI) (J : HJ) : CM mX12_count 1 0 0 [.ref 81, .int l1] (zs b, I, J) (fI (zs b)) (F_X12_count l1 I J) := by
  refine S.of okX12_count pn_X12 (Nat.le_of_ble_eq_true rfl) ?_
  refine S.sub (lv' := [(0, .ref 81), (1, .int l1)]) [0, 1] rfl ?_
  unfold F_X12_count
  refine S.aload_n 0 0 rfl rfl ?_
  refine S.iconst (0 : Int32) 1 rfl (by decide) ?_
  refine S.putI 2 rfl fo_X12_159 rfl rfl rfl rfl (fun _ hq => by cases hq; exact Or.inl rfl) (fun I2 => ?_)
  refine S.iload_n 3 1 rfl rfl ?_
  refine S.ite (fun c0 => ?_) (fun c0 => ?_)
  · refine S.tswIn 56 4 rfl (by rw [c0]; decide) (by rw [c0]; decide) (by rw [c0]; rfl) (by decide) ?_
    refine S.aload_n 5 0 rfl rfl ?_
    refine S.getI 6 rfl fo_X12_9 rfl rfl ?_
    exact S.iret 7 rfl rfl rfl (Nat.le_refl _) (Nat.le_refl _) rfl
  refine S.ite (fun c1 => ?_) (fun c1 => ?_)
  · refine S.tswIn 61 4 rfl (by rw [c1]; decide) (by rw [c1]; decide) (by rw [c1]; rfl) (by decide) ?_
    refine S.aload_n 8 0 rfl rfl ?_
    refine S.getI 9 rfl fo_X12_169 rfl rfl ?_
    exact S.iret 10 rfl rfl rfl (Nat.le_refl _) (Nat.le_refl _) rfl
  refine S.ite (fun c2 => ?_) (fun c2 => ?_)
  · refine S.tswIn 66 4 rfl (by rw [c2]; decide) (by rw [c2]; decide) (by rw [c2]; rfl) (by decide) ?_
    refine S.aload_n 11 0 rfl rfl ?_
    refine S.getR 12 rfl fo_X12_26 rfl rfl rfl ?_
    refine S.iconst (0 : Int32) 13 rfl (by decide) ?_
    refine S.iald 14 rfl rfl ?_
    exact S.iret 15 rfl rfl rfl (Nat.le_refl _) (Nat.le_refl _) rfl
  refine S.ite (fun c3 => ?_) (fun c3 => ?_)
  · refine S.tswIn 73 4 rfl (by rw [c3]; decide) (by rw [c3]; decide) (by rw [c3]; rfl) (by decide) ?_
    refine S.aload_n 16 0 rfl rfl ?_
    refine S.getI 17 rfl fo_X12_211 rfl rfl ?_
    exact S.iret 18 rfl rfl rfl (Nat.le_refl _) (Nat.le_refl _) rfl
  refine S.ite (fun c4 => ?_) (fun c4 => ?_)
  · refine S.tswIn 78 4 rfl (by rw [c4]; decide) (by rw [c4]; decide) (by rw [c4]; rfl) (by decide) ?_
    refine S.aload_n 19 0 rfl rfl ?_
    refine S.getI 20 rfl fo_X12_214 rfl rfl ?_
    exact S.iret 21 rfl rfl rfl (Nat.le_refl _) (Nat.le_refl _) rfl
  refine S.ite (fun c5 => ?_) (fun c5 => ?_)
  · refine S.tswIn 83 4 rfl (by rw [c5]; decide) (by rw [c5]; decide) (by rw [c5]; rfl) (by decide) ?_
    refine S.aload_n 22 0 rfl rfl ?_
    refine S.getI 23 rfl fo_X12_217 rfl rfl ?_
    exact S.iret 24 rfl rfl rfl (Nat.le_refl _) (Nat.le_refl _) rfl
  refine S.ite (fun c6 => ?_) (fun c6 => ?_)
  · refine S.tswIn 88 4 rfl (by rw [c6]; decide) (by rw [c6]; decide) (by rw [c6]; rfl) (by decide) ?_
    refine S.aload_n 25 0 rfl rfl ?_
    refine S.getI 26 rfl fo_X12_220 rfl rfl ?_
    exact S.iret 27 rfl rfl rfl (Nat.le_refl _) (Nat.le_refl _) rfl
  refine S.ite (fun c7 => ?_) (fun c7 => ?_)
  · refine S.tswIn 93 4 rfl (by rw [c7]; decide) (by rw [c7]; decide) (by rw [c7]; rfl) (by decide) ?_
    refine S.aload_n 28 0 rfl rfl ?_
    refine S.getI 29 rfl fo_X12_162 rfl rfl ?_
    exact S.iret 30 rfl rfl rfl (Nat.le_refl _) (Nat.le_refl _) rfl
  refine S.ite (fun c8 => ?_) (fun c8 => ?_)
  · refine S.tswIn 98 4 rfl (by rw [c8]; decide) (by rw [c8]; decide) (by rw [c8]; rfl) (by decide) ?_
    refine S.aload_n 31 0 rfl rfl ?_
    refine S.getI 32 rfl fo_X12_172 rfl rfl ?_
    exact S.iret 33 rfl rfl rfl (Nat.le_refl _) (Nat.le_refl _) rfl
  · refine S.tswOut 103 4 rfl (tsw_out 0 8 (fun n h1 h2 => ?_)) (by decide) ?_
    · have h9 : n = 0 ∨ n = 1 ∨ n = 2 ∨ n = 3 ∨ n = 4 ∨ n = 5 ∨ n = 6 ∨ n = 7 ∨ n = 8 := by omega
      rcases h9 with rfl | rfl | rfl | rfl | rfl | rfl | rfl | rfl | rfl
      · exact c0
      · exact c1
      · exact c2
      · exact c3
      · exact c4
      · exact c5
      · exact c6
      · exact c7
      · exact c8
    refine S.iconst (-1 : Int32) 34 rfl (by decide) ?_
    exact S.iret 35 rfl rfl rfl (Nat.le_refl _) (Nat.le_refl _) rfl
def F_X12_row (l1 : Int32) (I : HI) (J : HJ) : Option (Int64 × HI × HJ) :=
  lb (ui I m_self f_Model_thrown (0 : Int32)) fun I2 =>
  cp (F_X12_in (Int32.toInt64 l1) (0 : Int64) (Int32.toInt64 ((I2 m_self f_Model_rowMany) - (1 : Int32)))) fun r3 =>
  if r3 = 0 then
    cl (F_X12_lost I2 J) fun r4 I5 J6 =>
    some ((Int32.toInt64 r4), I5, J6)
  else
    bx l1 210 <|
    some ((J m_row (Int32.toNatClampNeg l1)), I2, J)
set_option maxRecDepth 100000 in
theorem cm_X12_row (b : Bool) (l1 : Int32) (I : HI) (J : HJ) : CM mX12_row 2 0 0 [.ref 81, .int l1] (zs b, I, J) (fL (zs b)) (F_X12_row l1 I J) := by
  refine S.of okX12_row pn_X12 (Nat.le_of_ble_eq_true rfl) ?_
  refine S.sub (lv' := [(0, .ref 81), (1, .int l1)]) [0, 1] rfl ?_
  unfold F_X12_row
  refine S.aload_n 0 0 rfl rfl ?_
  refine S.iconst (0 : Int32) 1 rfl (by decide) ?_
  refine S.putI 2 rfl fo_X12_159 rfl rfl rfl rfl (fun _ hq => by cases hq; exact Or.inl rfl) (fun I2 => ?_)
  refine S.iload_n 3 1 rfl rfl ?_
  refine S.i2l 4 rfl ?_
  refine S.lconst (0 : Int64) 5 rfl (by decide) ?_
  refine S.aload_n 6 0 rfl rfl ?_
  refine S.getI 7 rfl fo_X12_162 rfl rfl ?_
  refine S.iconst (1 : Int32) 8 rfl (by decide) ?_
  refine S.isub 9 rfl ?_
  refine S.i2l 10 rfl ?_
  refine S.qSI (d := 1) (av := [.long (Int32.toInt64 l1), .long (0 : Int64), .long (Int32.toInt64 ((I2 m_self f_Model_rowMany) - (1 : Int32)))]) (rs := [.long (Int32.toInt64 ((I2 m_self f_Model_rowMany) - (1 : Int32))), .long (0 : Int64), .long (Int32.toInt64 l1)]) 11 rfl co_X12_165 rfl rfl ⟨⟨Nat.le_of_ble_eq_true rfl, Nat.le_of_ble_eq_true rfl⟩, ⟨Nat.le_of_ble_eq_true rfl, Nat.le_of_ble_eq_true rfl⟩, Nat.le_of_ble_eq_true rfl⟩ (cm_X12_in (zs b, I2, J) (Int32.toInt64 l1) (0 : Int64) (Int32.toInt64 ((I2 m_self f_Model_rowMany) - (1 : Int32)))) (fun r3 => ?_)
  refine S.if_eq 30 12 rfl (by decide) (fun _ => ?_) (fun _ => ?_)
  · refine S.aload_n 18 0 rfl rfl ?_
    refine S.cVI (d := 1) (av := []) (rs := []) (b := 81) 19 rfl co_X12_238 rfl rfl rfl rfl rfl ⟨⟨Nat.le_of_ble_eq_true rfl, Nat.le_of_ble_eq_true rfl⟩, ⟨Nat.le_of_ble_eq_true rfl, Nat.le_of_ble_eq_true rfl⟩, Nat.le_of_ble_eq_true rfl⟩ (cm_X12_lost b I2 J) (fun r4 I5 J6 => ?_)
    refine S.i2l 20 rfl ?_
    exact S.lret 21 rfl rfl (Nat.le_refl _) (Nat.le_refl _) rfl
  · refine S.aload_n 13 0 rfl rfl ?_
    refine S.getR 14 rfl fo_X12_33 rfl rfl rfl ?_
    refine S.iload_n 15 1 rfl rfl ?_
    refine S.lald 16 rfl rfl ?_
    refine S.goto 35 17 rfl (by decide) ?_
    exact S.lret 21 rfl rfl (Nat.le_refl _) (Nat.le_refl _) rfl

/-! grow, tree, path from the shape without the tree's rows: cells and slots are made once -/
section SF
variable {ρ : Type} {fin : Fin' ρ} {M : MD} {R : Room} {mc ms : Nat} {cs : Nat × Nat} {pc : Nat} {lv : Lv} {st : List Value} {h : Hp} {Z : List Kd} {I : HI} {J : HJ} {f : Option ρ}
def fB : Fin' (Bool × Int32 × HI × HJ) := fun q => (some (.int q.2.1), (zs q.1, q.2.2.1, q.2.2.2))
theorem S.mapB {f : Option (Int32 × HI × HJ)} (k : S (fI (zs true)) M R mc ms cs pc lv st h f) : S fB M R mc ms cs pc lv st h (f.map (fun q => (true, q))) := by
  intro r hr
  cases hf : f with
  | none => rw [hf] at hr; cases hr
  | some q => rw [hf] at hr; cases hr; exact k q hf
theorem S.mcV {fc : Option (Unit × HI × HJ)} {F : Unit → HI → HJ → Option ρ} {Zb : List Kd} {idx n d mc' ms' b ci : Nat} {M' : MD} {av rs : List Value} {rr : List Nat} (cs' : Nat × Nat) (i : Nat) (hi : M.2.2.2.2[i]? = some (pc, .invokevirtual idx, 3)) (ho : VOk M.1.cls idx M' n) (hn : av.length = n) (hrs : av.reverse = rs) {qc : vw_C} (hq : cl_all[ci]? = some qc) (hqc : qc.1 = M'.1.cls) (hz : Z[b]? = some (0, ci, rr)) (hR : rOk R cs M' d mc' ms' st) (hM : CM M' d mc' ms' (.ref b :: av) (Z, I, J) (fV Zb) fc) (hv : vld Z.length lv st = true) (hcs : (cs.1 + mc', cs.2 + ms') = cs')
    (k : ∀ (I1 : HI) (J1 : HJ), S fin M R mc ms cs' (pc + 3) lv st (Zb, I1, J1) (F () I1 J1)) : S fin M R mc ms cs pc lv (rs ++ .ref b :: st) (Z, I, J) (cl fc F) := by
  subst hcs
  exact S.callV i hi ho hn hrs hq hqc hz hR hM (Or.inl hv) (fun q => k q.2.1 q.2.2)
end SF
set_option maxRecDepth 100000 in
theorem s_X5_growf_L33 (kx69 : HI → HJ → Option (Unit × HI × HJ)) (hkx69 : ∀ (I1 : HI) (J1 : HJ), S (fV (zs true)) mX5_grow (rmd 26 2 59392) 2 59392 (2, 59392) 69 [(0, .ref 52)] [] (zs true, I1, J1) (kx69 I1 J1)) : ∀ (K : Nat) (l1 : Int32) (I : HI) (J : HJ), S (fV (zs true)) mX5_grow (rmd 26 2 59392) 2 59392 (2, 59392) 33 [(0, .ref 52), (1, .int l1)] [] (zs true, I, J) (F_X5_grow_L33 kx69 K l1 I J) := by
  intro K
  induction K with
  | zero => intro l1 I J; exact S.none
  | succ K ih =>
    intro l1 I J
    rw [F_X5_grow_L33]
    refine S.iload_n 17 1 rfl rfl ?_
    refine S.aload_n 18 0 rfl rfl ?_
    refine S.getR 19 rfl fo_X5_47 rfl rfl rfl ?_
    refine S.getI 20 rfl fo_X5_51 rfl rfl ?_
    refine S.icmp_ge 69 21 rfl (by decide) (fun _ => ?_) (fun _ => ?_)
    · refine S.sub (lv' := [(0, .ref 52)]) [0] rfl ?_
      exact hkx69 _ _
    · refine S.aload_n 22 0 rfl rfl ?_
      refine S.getR 23 rfl fo_X5_22 rfl rfl rfl ?_
      refine S.iload_n 24 1 rfl rfl ?_
      refine S.aload_n 25 0 rfl rfl ?_
      refine S.aload_n 26 0 rfl rfl ?_
      refine S.getR 27 rfl fo_X5_47 rfl rfl rfl ?_
      refine S.getR 28 rfl fo_X5_56 rfl rfl rfl ?_
      refine S.iload_n 29 1 rfl rfl ?_
      refine S.iald 30 rfl rfl ?_
      refine S.cVI (d := 25) (av := [.int (I x_suspects_agrees (Int32.toNatClampNeg l1))]) (rs := [.int (I x_suspects_agrees (Int32.toNatClampNeg l1))]) (b := 52) 31 rfl co_X5_59 rfl rfl rfl rfl rfl ⟨⟨Nat.le_of_ble_eq_true rfl, Nat.le_of_ble_eq_true rfl⟩, ⟨Nat.le_of_ble_eq_true rfl, Nat.le_of_ble_eq_true rfl⟩, Nat.le_of_ble_eq_true rfl⟩ (cm_X5_findGroup true (I x_suspects_agrees (Int32.toNatClampNeg l1)) I J) (fun r7 I8 J9 => ?_)
      refine S.iast 32 rfl rfl (fun I10 => ?_)
      refine S.iinc (l1 + 1) [(1, .int (l1 + 1)), (0, .ref 52)] 33 1 rfl rfl rfl (by decide) rfl ?_
      refine S.goto 33 34 rfl (by decide) ?_
      refine S.sub (lv' := [(0, .ref 52), (1, .int (l1 + 1))]) [1, 0] rfl ?_
      exact ih _ _ _
set_option maxRecDepth 100000 in
theorem s_X5_growf_L78 (J : HJ) (kx103 : HI → Option (Unit × HI × HJ)) (hkx103 : ∀ (I1 : HI), S (fV (zs true)) mX5_grow (rmd 26 2 59392) 2 59392 (2, 59392) 103 [(0, .ref 52)] [] (zs true, I1, J) (kx103 I1)) : ∀ (K : Nat) (l1 : Int32) (I : HI), S (fV (zs true)) mX5_grow (rmd 26 2 59392) 2 59392 (2, 59392) 78 [(0, .ref 52), (1, .int l1)] [] (zs true, I, J) (F_X5_grow_L78 J kx103 K l1 I) := by
  intro K
  induction K with
  | zero => intro l1 I; exact S.none
  | succ K ih =>
    intro l1 I
    rw [F_X5_grow_L78]
    refine S.iload_n 42 1 rfl rfl ?_
    refine S.aload_n 43 0 rfl rfl ?_
    refine S.getI 44 rfl fo_X5_25 rfl rfl ?_
    refine S.icmp_ge 103 45 rfl (by decide) (fun _ => ?_) (fun _ => ?_)
    · refine S.sub (lv' := [(0, .ref 52)]) [0] rfl ?_
      exact hkx103 _
    · refine S.aload_n 46 0 rfl rfl ?_
      refine S.getR 47 rfl fo_X5_41 rfl rfl rfl ?_
      refine S.iconst (0 : Int32) 48 rfl (by decide) ?_
      refine S.iload_n 49 1 rfl rfl ?_
      refine S.qSI (d := 1) (av := [.int (0 : Int32), .int l1]) (rs := [.int l1, .int (0 : Int32)]) 50 rfl co_X5_63 rfl rfl ⟨⟨Nat.le_of_ble_eq_true rfl, Nat.le_of_ble_eq_true rfl⟩, ⟨Nat.le_of_ble_eq_true rfl, Nat.le_of_ble_eq_true rfl⟩, Nat.le_of_ble_eq_true rfl⟩ (cm_X5_place (zs true, I, J) (0 : Int32) l1) (fun r14 => ?_)
      refine S.iconst (0 : Int32) 51 rfl (by decide) ?_
      refine S.iast 52 rfl rfl (fun I15 => ?_)
      refine S.iinc (l1 + 1) [(1, .int (l1 + 1)), (0, .ref 52)] 53 1 rfl rfl rfl (by decide) rfl ?_
      refine S.goto 78 54 rfl (by decide) ?_
      refine S.sub (lv' := [(0, .ref 52), (1, .int (l1 + 1))]) [1, 0] rfl ?_
      exact ih _ _
set_option maxRecDepth 100000 in
theorem s_X5_growf_L105 (kx126 : HI → HJ → Option (Unit × HI × HJ)) (hkx126 : ∀ (I1 : HI) (J1 : HJ), S (fV (zs true)) mX5_grow (rmd 26 2 59392) 2 59392 (2, 59392) 126 [(0, .ref 52)] [] (zs true, I1, J1) (kx126 I1 J1)) : ∀ (K : Nat) (l1 : Int32) (I : HI) (J : HJ), S (fV (zs true)) mX5_grow (rmd 26 2 59392) 2 59392 (2, 59392) 105 [(0, .ref 52), (1, .int l1)] [] (zs true, I, J) (F_X5_grow_L105 kx126 K l1 I J) := by
  intro K
  induction K with
  | zero => intro l1 I J; exact S.none
  | succ K ih =>
    intro l1 I J
    rw [F_X5_grow_L105]
    refine S.iload_n 57 1 rfl rfl ?_
    refine S.iconst (1 : Int32) 58 rfl (by decide) ?_
    refine S.aload_n 59 0 rfl rfl ?_
    refine S.getI 60 rfl fo_X5_18 rfl rfl ?_
    refine S.ishl 61 rfl ?_
    refine S.icmp_ge 126 62 rfl (by decide) (fun _ => ?_) (fun _ => ?_)
    · refine S.sub (lv' := [(0, .ref 52)]) [0] rfl ?_
      exact hkx126 _ _
    · refine S.aload_n 63 0 rfl rfl ?_
      refine S.iload_n 64 1 rfl rfl ?_
      refine S.cVV (d := 2) (av := [.int l1]) (rs := [.int l1]) (b := 52) 65 rfl co_X5_67 rfl rfl rfl rfl rfl ⟨⟨Nat.le_of_ble_eq_true rfl, Nat.le_of_ble_eq_true rfl⟩, ⟨Nat.le_of_ble_eq_true rfl, Nat.le_of_ble_eq_true rfl⟩, Nat.le_of_ble_eq_true rfl⟩ (cm_X5_partCells l1 I J) (fun _ I17 J18 => ?_)
      refine S.iinc (l1 + 1) [(1, .int (l1 + 1)), (0, .ref 52)] 66 1 rfl rfl rfl (by decide) rfl ?_
      refine S.goto 105 67 rfl (by decide) ?_
      refine S.sub (lv' := [(0, .ref 52), (1, .int (l1 + 1))]) [1, 0] rfl ?_
      exact ih _ _ _
set_option maxRecDepth 100000 in
theorem s_X5_growf_L135  : ∀ (K : Nat) (l1 : Int32) (I : HI) (J : HJ), S (fV (zs true)) mX5_grow (rmd 26 2 59392) 2 59392 (2, 59392) 135 [(0, .ref 52), (1, .int l1)] [] (zs true, I, J) (F_X5_grow_L135 K l1 I J) := by
  intro K
  induction K with
  | zero => intro l1 I J; exact S.none
  | succ K ih =>
    intro l1 I J
    rw [F_X5_grow_L135]
    refine S.iload_n 75 1 rfl rfl ?_
    refine S.if_lt 150 76 rfl (by decide) (fun _ => ?_) (fun _ => ?_)
    · exact S.vret 82 rfl rfl (Nat.le_refl _) (Nat.le_refl _) rfl
    · refine S.aload_n 77 0 rfl rfl ?_
      refine S.iload_n 78 1 rfl rfl ?_
      refine S.cVV (d := 4) (av := [.int l1]) (rs := [.int l1]) (b := 52) 79 rfl co_X5_71 rfl rfl rfl rfl rfl ⟨⟨Nat.le_of_ble_eq_true rfl, Nat.le_of_ble_eq_true rfl⟩, ⟨Nat.le_of_ble_eq_true rfl, Nat.le_of_ble_eq_true rfl⟩, Nat.le_of_ble_eq_true rfl⟩ (cm_X5_reckonDepths l1 I J) (fun _ I22 J23 => ?_)
      refine S.iinc (l1 + (-1)) [(1, .int (l1 + (-1))), (0, .ref 52)] 80 1 rfl rfl rfl (by decide) rfl ?_
      refine S.goto 135 81 rfl (by decide) ?_
      refine S.sub (lv' := [(0, .ref 52), (1, .int (l1 + (-1)))]) [1, 0] rfl ?_
      exact ih _ _ _
set_option maxRecDepth 100000 in
theorem s_X5_growf_C26 (I : HI) (J : HJ) : S (fV (zs true)) mX5_grow (rmd 26 2 59392) 2 59392 (2, 59392) 26 [(0, .ref 52)] [] (zs true, I, J) (F_X5_grow_C26 I J) := by
  unfold F_X5_grow_C26
  refine S.aload_n 12 0 rfl rfl ?_
  refine S.iconst (0 : Int32) 13 rfl (by decide) ?_
  refine S.putI 14 rfl fo_X5_25 rfl rfl rfl rfl (fun _ hq => by cases hq; exact Or.inl rfl) (fun I6 => ?_)
  refine S.iconst (0 : Int32) 15 rfl (by decide) ?_
  refine S.istore_n [(1, .int (0 : Int32)), (0, .ref 52)] 16 rfl (by decide) rfl ?_
  refine S.sub (lv' := [(0, .ref 52), (1, .int (0 : Int32))]) [1, 0] rfl ?_
  refine s_X5_growf_L33 _ (fun I11 J12 => ?_) bgf _ _ _
  refine S.aload_n 35 0 rfl rfl ?_
  refine S.getR 36 rfl fo_X5_38 rfl rfl rfl ?_
  refine S.iconst (0 : Int32) 37 rfl (by decide) ?_
  refine S.iconst (1 : Int32) 38 rfl (by decide) ?_
  refine S.iast 39 rfl rfl (fun I13 => ?_)
  refine S.iconst (0 : Int32) 40 rfl (by decide) ?_
  refine S.istore_n [(1, .int (0 : Int32)), (0, .ref 52)] 41 rfl (by decide) rfl ?_
  refine S.sub (lv' := [(0, .ref 52), (1, .int (0 : Int32))]) [1, 0] rfl ?_
  refine s_X5_growf_L78 _ _ (fun I16 => ?_) bgf _ _
  refine S.iconst (1 : Int32) 55 rfl (by decide) ?_
  refine S.istore_n [(1, .int (1 : Int32)), (0, .ref 52)] 56 rfl (by decide) rfl ?_
  refine S.sub (lv' := [(0, .ref 52), (1, .int (1 : Int32))]) [1, 0] rfl ?_
  refine s_X5_growf_L105 _ (fun I19 J20 => ?_) bgf _ _ _
  refine S.iconst (1 : Int32) 68 rfl (by decide) ?_
  refine S.aload_n 69 0 rfl rfl ?_
  refine S.getI 70 rfl fo_X5_18 rfl rfl ?_
  refine S.ishl 71 rfl ?_
  refine S.iconst (1 : Int32) 72 rfl (by decide) ?_
  refine S.isub 73 rfl ?_
  refine S.nmi (fun x21 => ?_)
  refine S.istore_n [(1, .int x21), (0, .ref 52)] 74 rfl (by decide) rfl ?_
  refine S.sub (lv' := [(0, .ref 52), (1, .int x21)]) [1, 0] rfl ?_
  refine s_X5_growf_L135 bgf _ _ _
def zg1 : List Kd := [(0, 11, [2, 9, 11, 16, 18, 26, 31, 37, 49, 53, 63]), (0, 0, [0, 0, 0, 0, 0, 3, 4, 5, 6, 7, 8]), (1, 10, []), (1, 64, []), (1, 64, []), (1, 64, []), (2, 10, []), (2, 10, []), (0, 9, [10, 0]), (4, 80, []), (0, 6, [9, 12, 13, 14, 15, 0, 0, 0, 0, 0, 0]), (1, 76, []), (1, 76, []), (1, 76, []), (1, 76, []), (0, 10, [17, 0]), (2, 16, []), (0, 1, [2, 19, 20, 21, 22, 23, 24, 25, 0, 0, 0, 0, 0, 0, 0, 0, 0, 0, 0, 0]), (1, 10, []), (2, 10, []), (2, 10, []), (2, 64, []), (2, 10, []), (1, 3, []), (1, 3, []), (0, 3, [0, 0, 27, 0, 28, 29, 30]), (2, 4, []), (1, 12, []), (1, 12, []), (2, 12, []), (0, 8, [2, 18, 32, 33, 34, 35, 36, 0, 0]), (1, 2187, []), (1, 2187, []), (2, 2187, []), (5, 2187, []), (1, 4096, []), (0, 4, [31, 18, 38, 0, 39, 40, 0, 41, 42, 43, 0, 44, 45, 0, 46, 47, 48]), (1, 12, []), (1, 2187, []), (1, 924, []), (1, 4096, []), (1, 12, []), (1, 12, []), (1, 12, []), (1, 12, []), (1, 12, []), (2, 144, []), (2, 12, []), (0, 7, [31, 2, 18, 26, 50, 0, 51, 52, 0]), (1, 116, []), (2, 116, []), (1, 116, []), (0, 5, [49, 54, 55, 0, 56, 0, 57, 58, 59, 60, 61, 62]), (1, 8, []), (1, 8, []), (1, 116, []), (2, 928, []), (1, 116, []), (1, 116, []), (1, 256, []), (1, 0, []), (1, 0, []), (6, 2, [64, 73]), (0, 2, [0, 0, 65, 66, 67, 68]), (1, 64, []), (1, 64, []), (1, 64, []), (0, 3, [0, 0, 69, 0, 70, 71, 72]), (2, 4, []), (1, 12, []), (1, 12, []), (2, 12, []), (0, 2, [0, 0, 74, 75, 76, 77]), (1, 64, []), (1, 64, []), (1, 64, []), (0, 3, [0, 0, 78, 0, 79, 80, 81]), (2, 4, []), (1, 12, []), (1, 12, []), (2, 12, []), (0, 12, [0, 0, 83, 84, 85, 86, 87, 0, 0, 0, 88, 0, 89, 0, 0, 0, 0, 0, 90, 0, 0, 91, 92, 93, 0, 0, 0, 0, 0, 0, 94, 95, 96, 97, 98, 0, 0, 0, 99, 0, 100, 101, 102, 103, 0, 104, 105, 106, 107, 108, 109, 0, 110, 111, 0, 112, 113, 114, 0, 115, 116, 117, 118, 0, 119, 0, 120, 121, 122, 123, 124, 125, 126, 127, 128]), (1, 60, []), (1, 60, []), (1, 60, []), (1, 10, []), (1, 3, []), (3, 80, []), (2, 210, []), (1, 320, []), (1, 11, []), (1, 60, []), (1, 60, []), (2, 60, []), (1, 60, []), (2, 60, []), (2, 10, []), (1, 3, []), (1, 3, []), (2, 2187, []), (5, 2187, []), (2, 4, []), (1, 12, []), (1, 2187, []), (1, 4096, []), (1, 4096, []), (1, 26244, []), (1, 12, []), (1, 12, []), (1, 6, []), (1, 6, []), (2, 144, []), (1, 12, []), (2, 2187, []), (1, 12, []), (1, 12, []), (2, 12, []), (1, 116, []), (2, 253692, []), (1, 8, []), (1, 8, []), (2, 928, []), (1, 29696, []), (1, 29696, []), (1, 416, []), (2, 32, []), (5, 2, []), (1, 2, []), (2, 1, []), (1, 29696, [])]
def zg2 : List Kd := [(0, 11, [2, 9, 11, 16, 18, 26, 31, 37, 49, 53, 63]), (0, 0, [0, 0, 0, 0, 0, 3, 4, 5, 6, 7, 8]), (1, 10, []), (1, 64, []), (1, 64, []), (1, 64, []), (2, 10, []), (2, 10, []), (0, 9, [10, 0]), (4, 80, []), (0, 6, [9, 12, 13, 14, 15, 0, 0, 0, 0, 0, 0]), (1, 76, []), (1, 76, []), (1, 76, []), (1, 76, []), (0, 10, [17, 0]), (2, 16, []), (0, 1, [2, 19, 20, 21, 22, 23, 24, 25, 0, 0, 0, 0, 0, 0, 0, 0, 0, 0, 0, 0]), (1, 10, []), (2, 10, []), (2, 10, []), (2, 64, []), (2, 10, []), (1, 3, []), (1, 3, []), (0, 3, [0, 0, 27, 0, 28, 29, 30]), (2, 4, []), (1, 12, []), (1, 12, []), (2, 12, []), (0, 8, [2, 18, 32, 33, 34, 35, 36, 0, 0]), (1, 2187, []), (1, 2187, []), (2, 2187, []), (5, 2187, []), (1, 4096, []), (0, 4, [31, 18, 38, 0, 39, 40, 0, 41, 42, 43, 0, 44, 45, 0, 46, 47, 48]), (1, 12, []), (1, 2187, []), (1, 924, []), (1, 4096, []), (1, 12, []), (1, 12, []), (1, 12, []), (1, 12, []), (1, 12, []), (2, 144, []), (2, 12, []), (0, 7, [31, 2, 18, 26, 50, 0, 51, 52, 0]), (1, 116, []), (2, 116, []), (1, 116, []), (0, 5, [49, 54, 55, 0, 56, 0, 57, 58, 59, 60, 130, 62]), (1, 8, []), (1, 8, []), (1, 116, []), (2, 928, []), (1, 116, []), (1, 116, []), (1, 256, []), (1, 0, []), (1, 0, []), (6, 2, [64, 73]), (0, 2, [0, 0, 65, 66, 67, 68]), (1, 64, []), (1, 64, []), (1, 64, []), (0, 3, [0, 0, 69, 0, 70, 71, 72]), (2, 4, []), (1, 12, []), (1, 12, []), (2, 12, []), (0, 2, [0, 0, 74, 75, 76, 77]), (1, 64, []), (1, 64, []), (1, 64, []), (0, 3, [0, 0, 78, 0, 79, 80, 81]), (2, 4, []), (1, 12, []), (1, 12, []), (2, 12, []), (0, 12, [0, 0, 83, 84, 85, 86, 87, 0, 0, 0, 88, 0, 89, 0, 0, 0, 0, 0, 90, 0, 0, 91, 92, 93, 0, 0, 0, 0, 0, 0, 94, 95, 96, 97, 98, 0, 0, 0, 99, 0, 100, 101, 102, 103, 0, 104, 105, 106, 107, 108, 109, 0, 110, 111, 0, 112, 113, 114, 0, 115, 116, 117, 118, 0, 119, 0, 120, 121, 122, 123, 124, 125, 126, 127, 128]), (1, 60, []), (1, 60, []), (1, 60, []), (1, 10, []), (1, 3, []), (3, 80, []), (2, 210, []), (1, 320, []), (1, 11, []), (1, 60, []), (1, 60, []), (2, 60, []), (1, 60, []), (2, 60, []), (2, 10, []), (1, 3, []), (1, 3, []), (2, 2187, []), (5, 2187, []), (2, 4, []), (1, 12, []), (1, 2187, []), (1, 4096, []), (1, 4096, []), (1, 26244, []), (1, 12, []), (1, 12, []), (1, 6, []), (1, 6, []), (2, 144, []), (1, 12, []), (2, 2187, []), (1, 12, []), (1, 12, []), (2, 12, []), (1, 116, []), (2, 253692, []), (1, 8, []), (1, 8, []), (2, 928, []), (1, 29696, []), (1, 29696, []), (1, 416, []), (2, 32, []), (5, 2, []), (1, 2, []), (2, 1, []), (1, 29696, [])]
def zg3 : List Kd := [(0, 11, [2, 9, 11, 16, 18, 26, 31, 37, 49, 53, 63]), (0, 0, [0, 0, 0, 0, 0, 3, 4, 5, 6, 7, 8]), (1, 10, []), (1, 64, []), (1, 64, []), (1, 64, []), (2, 10, []), (2, 10, []), (0, 9, [10, 0]), (4, 80, []), (0, 6, [9, 12, 13, 14, 15, 0, 0, 0, 0, 0, 0]), (1, 76, []), (1, 76, []), (1, 76, []), (1, 76, []), (0, 10, [17, 0]), (2, 16, []), (0, 1, [2, 19, 20, 21, 22, 23, 24, 25, 0, 0, 0, 0, 0, 0, 0, 0, 0, 0, 0, 0]), (1, 10, []), (2, 10, []), (2, 10, []), (2, 64, []), (2, 10, []), (1, 3, []), (1, 3, []), (0, 3, [0, 0, 27, 0, 28, 29, 30]), (2, 4, []), (1, 12, []), (1, 12, []), (2, 12, []), (0, 8, [2, 18, 32, 33, 34, 35, 36, 0, 0]), (1, 2187, []), (1, 2187, []), (2, 2187, []), (5, 2187, []), (1, 4096, []), (0, 4, [31, 18, 38, 0, 39, 40, 0, 41, 42, 43, 0, 44, 45, 0, 46, 47, 48]), (1, 12, []), (1, 2187, []), (1, 924, []), (1, 4096, []), (1, 12, []), (1, 12, []), (1, 12, []), (1, 12, []), (1, 12, []), (2, 144, []), (2, 12, []), (0, 7, [31, 2, 18, 26, 50, 0, 51, 52, 0]), (1, 116, []), (2, 116, []), (1, 116, []), (0, 5, [49, 54, 55, 0, 56, 0, 57, 58, 59, 60, 130, 62]), (1, 8, []), (1, 8, []), (1, 116, []), (2, 928, []), (1, 116, []), (1, 116, []), (1, 256, []), (1, 0, []), (1, 0, []), (6, 2, [64, 73]), (0, 2, [0, 0, 65, 66, 67, 68]), (1, 64, []), (1, 64, []), (1, 64, []), (0, 3, [0, 0, 69, 0, 70, 71, 72]), (2, 4, []), (1, 12, []), (1, 12, []), (2, 12, []), (0, 2, [0, 0, 74, 75, 76, 77]), (1, 64, []), (1, 64, []), (1, 64, []), (0, 3, [0, 0, 78, 0, 79, 80, 81]), (2, 4, []), (1, 12, []), (1, 12, []), (2, 12, []), (0, 12, [0, 0, 83, 84, 85, 86, 87, 0, 0, 0, 88, 0, 89, 0, 0, 0, 0, 0, 90, 0, 0, 91, 92, 93, 0, 0, 0, 0, 0, 0, 94, 95, 96, 97, 98, 0, 0, 0, 99, 0, 100, 101, 102, 103, 0, 104, 105, 106, 107, 108, 109, 0, 110, 111, 0, 112, 113, 114, 0, 115, 116, 117, 118, 0, 119, 0, 120, 121, 122, 123, 124, 125, 126, 127, 128]), (1, 60, []), (1, 60, []), (1, 60, []), (1, 10, []), (1, 3, []), (3, 80, []), (2, 210, []), (1, 320, []), (1, 11, []), (1, 60, []), (1, 60, []), (2, 60, []), (1, 60, []), (2, 60, []), (2, 10, []), (1, 3, []), (1, 3, []), (2, 2187, []), (5, 2187, []), (2, 4, []), (1, 12, []), (1, 2187, []), (1, 4096, []), (1, 4096, []), (1, 26244, []), (1, 12, []), (1, 12, []), (1, 6, []), (1, 6, []), (2, 144, []), (1, 12, []), (2, 2187, []), (1, 12, []), (1, 12, []), (2, 12, []), (1, 116, []), (2, 253692, []), (1, 8, []), (1, 8, []), (2, 928, []), (1, 29696, []), (1, 29696, []), (1, 416, []), (2, 32, []), (5, 2, []), (1, 2, []), (2, 1, []), (1, 29696, []), (1, 29696, [])]
def F_X5_growf (I : HI) (J : HJ) : Option (Unit × HI × HJ) :=
  if (0 : Int32) = 0 then
  lb (uf I 129 (fun _ => 0)) fun I1 =>
  lb (ufj J 129 (fun _ => 0)) fun J1 =>
  lb (uf I1 130 (fun _ => 0)) fun I3 =>
  lb (ufj J1 130 (fun _ => 0)) fun J3 =>
  F_X5_grow_C26 I3 J3
  else none
set_option maxRecDepth 100000 in
set_option maxHeartbeats 4000000 in
theorem cm_X5_growf (I : HI) (J : HJ) : CM mX5_grow 26 2 59392 [.ref 52] (zs false, I, J) (fV (zs true)) (F_X5_growf I J) := by
  refine S.of okX5_grow pn_X5 (Nat.le_of_ble_eq_true rfl) ?_
  refine S.sub (lv' := [(0, .ref 52)]) [0] rfl ?_
  unfold F_X5_growf
  refine S.aload_n 0 0 rfl rfl ?_
  refine S.getR 1 rfl fo_X5_41 rfl rfl rfl ?_
  refine S.alen (0 : Int32) 2 rfl rfl (by decide) (by decide) (by decide) ?_
  refine S.if_ne 26 3 rfl (by decide) (fun _ => ?_) (fun _ => ?_)
  · exact S.none
  · refine S.aload_n 4 0 rfl rfl ?_
    refine S.sipush (29696 : Int32) 5 rfl (by decide) ?_
    refine S.mkA zg1 (1, 29696) 129 1 29696 6 rfl w_arr_int rfl (fun _ => rfl) (cel_int 29696) (by decide) (by decide) (by decide) (by decide +kernel) rfl rfl rfl rfl (Nat.le_of_ble_eq_true rfl) (Nat.le_of_ble_eq_true rfl) (fun I1 J1 => ?_)
    refine S.ptR zg2 7 rfl fo_X5_41 rfl rfl (fun _ => rfl) (fun _ => rfl) (fun _ hq => by cases hq; exact Or.inl rfl) (by decide) rfl ?_
    refine S.aload_n 8 0 rfl rfl ?_
    refine S.sipush (29696 : Int32) 9 rfl (by decide) ?_
    refine S.mkA zg3 (2, 59392) 130 1 29696 10 rfl w_arr_int rfl (fun _ => rfl) (cel_int 29696) (by decide) (by decide) (by decide) (by decide +kernel) rfl rfl rfl rfl (Nat.le_of_ble_eq_true rfl) (Nat.le_of_ble_eq_true rfl) (fun I3 J3 => ?_)
    refine S.ptR (zs true) 11 rfl fo_X5_44 rfl rfl (fun _ => rfl) (fun _ => rfl) (fun _ hq => by cases hq; exact Or.inl rfl) (by decide) rfl ?_
    exact s_X5_growf_C26 I3 J3
set_option maxRecDepth 100000 in
theorem s_X11_treef_C27 (I : HI) (J : HJ) : S (fI (zs true)) mX11_tree (rmd 27 2 59392) 2 59392 (2, 59392) 27 [(0, .ref 0)] [] (zs true, I, J) (F_X11_tree_C27 I J) := by
  unfold F_X11_tree_C27
  refine S.aload_n 12 0 rfl rfl ?_
  refine S.getR 13 rfl fo_X11_35 rfl rfl rfl ?_
  refine S.cVV (d := 1) (av := []) (rs := []) (b := 15) 14 rfl co_X11_205 rfl rfl rfl rfl rfl ⟨⟨Nat.le_of_ble_eq_true rfl, Nat.le_of_ble_eq_true rfl⟩, ⟨Nat.le_of_ble_eq_true rfl, Nat.le_of_ble_eq_true rfl⟩, Nat.le_of_ble_eq_true rfl⟩ (cm_X10_clear true I J) (fun _ I1 J2 => ?_)
  refine S.aload_n 15 0 rfl rfl ?_
  refine S.getR 16 rfl fo_X11_35 rfl rfl rfl ?_
  refine S.aload_n 17 0 rfl rfl ?_
  refine S.getR 18 rfl fo_X11_87 rfl rfl rfl ?_
  refine S.iconst (0 : Int32) 19 rfl (by decide) ?_
  refine S.iconst (0 : Int32) 20 rfl (by decide) ?_
  refine S.qVI (d := 4) (av := [.int (0 : Int32), .int (0 : Int32)]) (rs := [.int (0 : Int32), .int (0 : Int32)]) (b := 52) 21 rfl co_X11_377 rfl rfl rfl rfl rfl ⟨⟨Nat.le_of_ble_eq_true rfl, Nat.le_of_ble_eq_true rfl⟩, ⟨Nat.le_of_ble_eq_true rfl, Nat.le_of_ble_eq_true rfl⟩, Nat.le_of_ble_eq_true rfl⟩ (cm_X5_firstTest (0 : Int32) (0 : Int32) I1 J2) (fun r3 => ?_)
  refine S.i2l 22 rfl ?_
  refine S.cVV (d := 1) (av := [.long (Int32.toInt64 r3)]) (rs := [.long (Int32.toInt64 r3)]) (b := 15) 23 rfl co_X11_211 rfl rfl rfl rfl rfl ⟨⟨Nat.le_of_ble_eq_true rfl, Nat.le_of_ble_eq_true rfl⟩, ⟨Nat.le_of_ble_eq_true rfl, Nat.le_of_ble_eq_true rfl⟩, Nat.le_of_ble_eq_true rfl⟩ (cm_X10_add true (Int32.toInt64 r3) I1 J2) (fun _ I4 J5 => ?_)
  refine S.aload_n 24 0 rfl rfl ?_
  refine S.getR 25 rfl fo_X11_35 rfl rfl rfl ?_
  refine S.aload_n 26 0 rfl rfl ?_
  refine S.getR 27 rfl fo_X11_87 rfl rfl rfl ?_
  refine S.getI 28 rfl fo_X11_380 rfl rfl ?_
  refine S.i2l 29 rfl ?_
  refine S.cVV (d := 1) (av := [.long (Int32.toInt64 (I4 x_plan f_Plan_groups))]) (rs := [.long (Int32.toInt64 (I4 x_plan f_Plan_groups))]) (b := 15) 30 rfl co_X11_211 rfl rfl rfl rfl rfl ⟨⟨Nat.le_of_ble_eq_true rfl, Nat.le_of_ble_eq_true rfl⟩, ⟨Nat.le_of_ble_eq_true rfl, Nat.le_of_ble_eq_true rfl⟩, Nat.le_of_ble_eq_true rfl⟩ (cm_X10_add true (Int32.toInt64 (I4 x_plan f_Plan_groups)) I4 J5) (fun _ I6 J7 => ?_)
  refine S.aload_n 31 0 rfl rfl ?_
  refine S.getR 32 rfl fo_X11_87 rfl rfl rfl ?_
  refine S.iconst (0 : Int32) 33 rfl (by decide) ?_
  refine S.iconst (0 : Int32) 34 rfl (by decide) ?_
  refine S.qVI (d := 2) (av := [.int (0 : Int32), .int (0 : Int32)]) (rs := [.int (0 : Int32), .int (0 : Int32)]) (b := 52) 35 rfl co_X11_383 rfl rfl rfl rfl rfl ⟨⟨Nat.le_of_ble_eq_true rfl, Nat.le_of_ble_eq_true rfl⟩, ⟨Nat.le_of_ble_eq_true rfl, Nat.le_of_ble_eq_true rfl⟩, Nat.le_of_ble_eq_true rfl⟩ (cm_X5_depthAt (0 : Int32) (0 : Int32) I6 J7) (fun r8 => ?_)
  exact S.iret 36 rfl rfl rfl (Nat.le_refl _) (Nat.le_refl _) rfl
def F_X11_treef  (I : HI) (J : HJ) : Option (Bool × Int32 × HI × HJ) :=
  cl (F_X7_gather I J) fun _ I9 J10 =>
  if (I9 x_suspects f_Suspects_agreeing) = 0 then
    some (false, (-2 : Int32), I9, J10)
  else
    cl (F_X5_growf I9 J10) fun _ I11 J12 =>
    (F_X11_tree_C27 I11 J12).map (fun q => (true, q))
set_option maxRecDepth 100000 in
set_option maxHeartbeats 4000000 in
theorem cm_X11_treef  (I : HI) (J : HJ) : CM mX11_tree 27 2 59392 [.ref 0] (zs false, I, J) fB (F_X11_treef  I J) := by
  refine S.of okX11_tree pn_X11 (Nat.le_of_ble_eq_true rfl) ?_
  refine S.sub (lv' := [(0, .ref 0)]) [0] rfl ?_
  unfold F_X11_treef
  refine S.aload_n 0 0 rfl rfl ?_
  refine S.getR 1 rfl fo_X11_78 rfl rfl rfl ?_
  refine S.cVV (d := 26) (av := []) (rs := []) (b := 48) 2 rfl co_X11_353 rfl rfl rfl rfl rfl ⟨⟨Nat.le_of_ble_eq_true rfl, Nat.le_of_ble_eq_true rfl⟩, ⟨Nat.le_of_ble_eq_true rfl, Nat.le_of_ble_eq_true rfl⟩, Nat.le_of_ble_eq_true rfl⟩ (cm_X7_gather false I J) (fun _ I9 J10 => ?_)
  refine S.aload_n 3 0 rfl rfl ?_
  refine S.getR 4 rfl fo_X11_78 rfl rfl rfl ?_
  refine S.getI 5 rfl fo_X11_356 rfl rfl ?_
  refine S.if_ne 20 6 rfl (by decide) (fun _ => ?_) (fun _ => ?_)
  · refine S.aload_n 9 0 rfl rfl ?_
    refine S.getR 10 rfl fo_X11_87 rfl rfl rfl ?_
    refine S.mcV (d := 26) (mc' := 2) (ms' := 59392) (b := 52) (av := []) (rs := []) (2, 59392) 11 rfl co_X11_374 rfl rfl rfl rfl rfl ⟨⟨Nat.le_of_ble_eq_true rfl, Nat.le_of_ble_eq_true rfl⟩, ⟨Nat.le_of_ble_eq_true rfl, Nat.le_of_ble_eq_true rfl⟩, Nat.le_of_ble_eq_true rfl⟩ (cm_X5_growf I9 J10) rfl rfl (fun I11 J12 => ?_)
    exact S.mapB (s_X11_treef_C27 I11 J12)
  · refine S.bipush (-2 : Int32) 7 rfl (by decide) ?_
    exact S.iret 8 rfl rfl rfl (by decide) (by decide) rfl
set_option maxRecDepth 100000 in
theorem s_X11_pathf_L75 (l2 : Int32) (kx125 : Int32 → HI → HJ → Option (Int32 × HI × HJ)) (hkx125 : ∀ (y4 : Int32) (I1 : HI) (J1 : HJ), S (fI (zs true)) mX11_path (rmd 27 2 59392) 2 59392 (2, 59392) 125 [(0, .ref 0), (2, .int l2), (4, .int y4)] [] (zs true, I1, J1) (kx125 y4 I1 J1)) : ∀ (K : Nat) (l3 : Int32) (l4 : Int32) (l5 : Int32) (l6 : Int32) (I : HI) (J : HJ), S (fI (zs true)) mX11_path (rmd 27 2 59392) 2 59392 (2, 59392) 75 [(0, .ref 0), (2, .int l2), (3, .int l3), (4, .int l4), (5, .int l5), (6, .int l6)] [] (zs true, I, J) (F_X11_path_L75 l2 kx125 K l3 l4 l5 l6 I J) := by
  intro K
  induction K with
  | zero => intro l3 l4 l5 l6 I J; exact S.none
  | succ K ih =>
    intro l3 l4 l5 l6 I J
    rw [F_X11_path_L75]
    refine S.iload 39 5 rfl rfl ?_
    refine S.bipush (8 : Int32) 40 rfl (by decide) ?_
    refine S.icmp_ge 125 41 rfl (by decide) (fun _ => ?_) (fun _ => ?_)
    · refine S.sub (lv' := [(0, .ref 0), (2, .int l2), (4, .int l4)]) [0, 1, 3] rfl ?_
      exact hkx125 _ _ _
    · refine S.iload 42 4 rfl rfl ?_
      refine S.iconst (-1 : Int32) 43 rfl (by decide) ?_
      refine S.icmp_eq 125 44 rfl (by decide) (fun _ => ?_) (fun _ => ?_)
      · refine S.sub (lv' := [(0, .ref 0), (2, .int l2), (4, .int l4)]) [0, 1, 3] rfl ?_
        exact hkx125 _ _ _
      · refine S.aload_n 45 0 rfl rfl ?_
        refine S.getR 46 rfl fo_X11_35 rfl rfl rfl ?_
        refine S.iload 47 4 rfl rfl ?_
        refine S.i2l 48 rfl ?_
        refine S.cVV (d := 1) (av := [.long (Int32.toInt64 l5)]) (rs := [.long (Int32.toInt64 l5)]) (b := 15) 49 rfl co_X11_211 rfl rfl rfl rfl rfl ⟨⟨Nat.le_of_ble_eq_true rfl, Nat.le_of_ble_eq_true rfl⟩, ⟨Nat.le_of_ble_eq_true rfl, Nat.le_of_ble_eq_true rfl⟩, Nat.le_of_ble_eq_true rfl⟩ (cm_X10_add true (Int32.toInt64 l5) I J) (fun _ I6 J7 => ?_)
        refine S.iinc (l4 + 1) [(4, .int (l4 + 1)), (0, .ref 0), (2, .int l2), (3, .int l3), (5, .int l5), (6, .int l6)] 50 3 rfl rfl rfl (by decide) rfl ?_
        refine S.iload_n 51 3 rfl rfl ?_
        refine S.iconst (1 : Int32) 52 rfl (by decide) ?_
        refine S.iload 53 4 rfl rfl ?_
        refine S.ishl 54 rfl ?_
        refine S.ior 55 rfl ?_
        refine S.nmi (fun x8 => ?_)
        refine S.istore_n [(3, .int x8), (4, .int (l4 + 1)), (0, .ref 0), (2, .int l2), (5, .int l5), (6, .int l6)] 56 rfl (by decide) rfl ?_
        refine S.aload_n 57 2 rfl rfl ?_
        refine S.getR 58 rfl fo_X11_87 rfl rfl rfl ?_
        refine S.iload_n 59 0 rfl rfl ?_
        refine S.iload_n 60 3 rfl rfl ?_
        refine S.qVI (d := 4) (av := [.int x8, .int l2]) (rs := [.int l2, .int x8]) (b := 52) 61 rfl co_X11_377 rfl rfl rfl rfl rfl ⟨⟨Nat.le_of_ble_eq_true rfl, Nat.le_of_ble_eq_true rfl⟩, ⟨Nat.le_of_ble_eq_true rfl, Nat.le_of_ble_eq_true rfl⟩, Nat.le_of_ble_eq_true rfl⟩ (cm_X5_firstTest x8 l2 I6 J7) (fun r9 => ?_)
        refine S.istore [(5, .int r9), (3, .int x8), (4, .int (l4 + 1)), (0, .ref 0), (2, .int l2), (6, .int l6)] 62 rfl (by decide) rfl ?_
        refine S.iinc (l6 + 1) [(6, .int (l6 + 1)), (5, .int r9), (3, .int x8), (4, .int (l4 + 1)), (0, .ref 0), (2, .int l2)] 63 5 rfl rfl rfl (by decide) rfl ?_
        refine S.goto 75 64 rfl (by decide) ?_
        refine S.sub (lv' := [(0, .ref 0), (2, .int l2), (3, .int x8), (4, .int (l4 + 1)), (5, .int r9), (6, .int (l6 + 1))]) [4, 5, 2, 3, 1, 0] rfl ?_
        exact ih _ _ _ _ _ _
set_option maxRecDepth 100000 in
theorem s_X11_pathf_C40 (l1 : Int32) (I : HI) (J : HJ) : S (fI (zs true)) mX11_path (rmd 27 2 59392) 2 59392 (2, 59392) 40 [(0, .ref 0), (1, .int l1)] [] (zs true, I, J) (F_X11_path_C40 l1 I J) := by
  unfold F_X11_path_C40
  refine S.aload_n 19 0 rfl rfl ?_
  refine S.getR 20 rfl fo_X11_35 rfl rfl rfl ?_
  refine S.cVV (d := 1) (av := []) (rs := []) (b := 15) 21 rfl co_X11_205 rfl rfl rfl rfl rfl ⟨⟨Nat.le_of_ble_eq_true rfl, Nat.le_of_ble_eq_true rfl⟩, ⟨Nat.le_of_ble_eq_true rfl, Nat.le_of_ble_eq_true rfl⟩, Nat.le_of_ble_eq_true rfl⟩ (cm_X10_clear true I J) (fun _ I2 J3 => ?_)
  refine S.aload_n 22 0 rfl rfl ?_
  refine S.getR 23 rfl fo_X11_87 rfl rfl rfl ?_
  refine S.iload_n 24 1 rfl rfl ?_
  refine S.qVI (d := 1) (av := [.int l1]) (rs := [.int l1]) (b := 52) 25 rfl co_X11_386 rfl rfl rfl rfl rfl ⟨⟨Nat.le_of_ble_eq_true rfl, Nat.le_of_ble_eq_true rfl⟩, ⟨Nat.le_of_ble_eq_true rfl, Nat.le_of_ble_eq_true rfl⟩, Nat.le_of_ble_eq_true rfl⟩ (cm_X5_groupOfFault true l1 I2 J3) (fun r4 => ?_)
  refine S.istore_n [(2, .int r4), (0, .ref 0), (1, .int l1)] 26 rfl (by decide) rfl ?_
  refine S.iconst (0 : Int32) 27 rfl (by decide) ?_
  refine S.istore_n [(3, .int (0 : Int32)), (2, .int r4), (0, .ref 0), (1, .int l1)] 28 rfl (by decide) rfl ?_
  refine S.iconst (0 : Int32) 29 rfl (by decide) ?_
  refine S.istore [(4, .int (0 : Int32)), (3, .int (0 : Int32)), (2, .int r4), (0, .ref 0), (1, .int l1)] 30 rfl (by decide) rfl ?_
  refine S.aload_n 31 3 rfl rfl ?_
  refine S.getR 32 rfl fo_X11_87 rfl rfl rfl ?_
  refine S.iconst (0 : Int32) 33 rfl (by decide) ?_
  refine S.iload_n 34 2 rfl rfl ?_
  refine S.qVI (d := 4) (av := [.int (0 : Int32), .int r4]) (rs := [.int r4, .int (0 : Int32)]) (b := 52) 35 rfl co_X11_377 rfl rfl rfl rfl rfl ⟨⟨Nat.le_of_ble_eq_true rfl, Nat.le_of_ble_eq_true rfl⟩, ⟨Nat.le_of_ble_eq_true rfl, Nat.le_of_ble_eq_true rfl⟩, Nat.le_of_ble_eq_true rfl⟩ (cm_X5_firstTest (0 : Int32) r4 I2 J3) (fun r5 => ?_)
  refine S.istore [(5, .int r5), (4, .int (0 : Int32)), (3, .int (0 : Int32)), (2, .int r4), (0, .ref 0), (1, .int l1)] 36 rfl (by decide) rfl ?_
  refine S.iconst (0 : Int32) 37 rfl (by decide) ?_
  refine S.istore [(6, .int (0 : Int32)), (5, .int r5), (4, .int (0 : Int32)), (3, .int (0 : Int32)), (2, .int r4), (0, .ref 0), (1, .int l1)] 38 rfl (by decide) rfl ?_
  refine S.sub (lv' := [(0, .ref 0), (2, .int r4), (3, .int (0 : Int32)), (4, .int (0 : Int32)), (5, .int r5), (6, .int (0 : Int32))]) [5, 4, 3, 2, 1, 0] rfl ?_
  refine s_X11_pathf_L75 _ _ (fun y10 I11 J12 => ?_) bgf _ _ _ _ _ _
  refine S.aload_n 65 0 rfl rfl ?_
  refine S.getR 66 rfl fo_X11_35 rfl rfl rfl ?_
  refine S.aload_n 67 0 rfl rfl ?_
  refine S.getR 68 rfl fo_X11_87 rfl rfl rfl ?_
  refine S.iload_n 69 1 rfl rfl ?_
  refine S.qVI (d := 1) (av := [.int r4]) (rs := [.int r4]) (b := 52) 70 rfl co_X11_389 rfl rfl rfl rfl rfl ⟨⟨Nat.le_of_ble_eq_true rfl, Nat.le_of_ble_eq_true rfl⟩, ⟨Nat.le_of_ble_eq_true rfl, Nat.le_of_ble_eq_true rfl⟩, Nat.le_of_ble_eq_true rfl⟩ (cm_X5_sizeOfGroup true r4 I11 J12) (fun r13 => ?_)
  refine S.i2l 71 rfl ?_
  refine S.cVV (d := 1) (av := [.long (Int32.toInt64 r13)]) (rs := [.long (Int32.toInt64 r13)]) (b := 15) 72 rfl co_X11_211 rfl rfl rfl rfl rfl ⟨⟨Nat.le_of_ble_eq_true rfl, Nat.le_of_ble_eq_true rfl⟩, ⟨Nat.le_of_ble_eq_true rfl, Nat.le_of_ble_eq_true rfl⟩, Nat.le_of_ble_eq_true rfl⟩ (cm_X10_add true (Int32.toInt64 r13) I11 J12) (fun _ I14 J15 => ?_)
  refine S.iload 73 2 rfl rfl ?_
  exact S.iret 74 rfl rfl rfl (Nat.le_refl _) (Nat.le_refl _) rfl
def F_X11_pathf (l1 : Int32) (I : HI) (J : HJ) : Option (Bool × Int32 × HI × HJ) :=
  cp (F_X7_has l1 I J) fun r16 =>
  if r16 = 0 then
    some (false, (-1 : Int32), I, J)
  else
    cl (F_X7_firstAgainst l1 I J) fun r17 I18 J19 =>
    if r17 = (-2 : Int32) then
      cl (F_X7_gather I18 J19) fun _ I20 J21 =>
      cl (F_X5_growf I20 J21) fun _ I22 J23 =>
      (F_X11_path_C40 l1 I22 J23).map (fun q => (true, q))
    else
      some (false, (-1 : Int32), I18, J19)
set_option maxRecDepth 100000 in
set_option maxHeartbeats 4000000 in
theorem cm_X11_pathf (l1 : Int32) (I : HI) (J : HJ) : CM mX11_path 27 2 59392 [.ref 0, .int l1] (zs false, I, J) fB (F_X11_pathf l1 I J) := by
  refine S.of okX11_path pn_X11 (Nat.le_of_ble_eq_true rfl) ?_
  refine S.sub (lv' := [(0, .ref 0), (1, .int l1)]) [0, 1] rfl ?_
  unfold F_X11_pathf
  refine S.aload_n 0 0 rfl rfl ?_
  refine S.getR 1 rfl fo_X11_78 rfl rfl rfl ?_
  refine S.iload_n 2 1 rfl rfl ?_
  refine S.qVI (d := 4) (av := [.int l1]) (rs := [.int l1]) (b := 48) 3 rfl co_X11_326 rfl rfl rfl rfl rfl ⟨⟨Nat.le_of_ble_eq_true rfl, Nat.le_of_ble_eq_true rfl⟩, ⟨Nat.le_of_ble_eq_true rfl, Nat.le_of_ble_eq_true rfl⟩, Nat.le_of_ble_eq_true rfl⟩ (cm_X7_has false l1 I J) (fun r16 => ?_)
  refine S.if_eq 24 4 rfl (by decide) (fun _ => ?_) (fun _ => ?_)
  · refine S.iconst (-1 : Int32) 11 rfl (by decide) ?_
    exact S.iret 12 rfl rfl rfl (by decide) (by decide) rfl
  · refine S.aload_n 5 0 rfl rfl ?_
    refine S.getR 6 rfl fo_X11_78 rfl rfl rfl ?_
    refine S.iload_n 7 1 rfl rfl ?_
    refine S.cVI (d := 25) (av := [.int l1]) (rs := [.int l1]) (b := 48) 8 rfl co_X11_362 rfl rfl rfl rfl rfl ⟨⟨Nat.le_of_ble_eq_true rfl, Nat.le_of_ble_eq_true rfl⟩, ⟨Nat.le_of_ble_eq_true rfl, Nat.le_of_ble_eq_true rfl⟩, Nat.le_of_ble_eq_true rfl⟩ (cm_X7_firstAgainst false l1 I J) (fun r17 I18 J19 => ?_)
    refine S.bipush (-2 : Int32) 9 rfl (by decide) ?_
    refine S.icmp_eq 26 10 rfl (by decide) (fun _ => ?_) (fun _ => ?_)
    · refine S.aload_n 13 0 rfl rfl ?_
      refine S.getR 14 rfl fo_X11_78 rfl rfl rfl ?_
      refine S.cVV (d := 26) (av := []) (rs := []) (b := 48) 15 rfl co_X11_353 rfl rfl rfl rfl rfl ⟨⟨Nat.le_of_ble_eq_true rfl, Nat.le_of_ble_eq_true rfl⟩, ⟨Nat.le_of_ble_eq_true rfl, Nat.le_of_ble_eq_true rfl⟩, Nat.le_of_ble_eq_true rfl⟩ (cm_X7_gather false I18 J19) (fun _ I20 J21 => ?_)
      refine S.aload_n 16 0 rfl rfl ?_
      refine S.getR 17 rfl fo_X11_87 rfl rfl rfl ?_
      refine S.mcV (d := 26) (mc' := 2) (ms' := 59392) (b := 52) (av := []) (rs := []) (2, 59392) 18 rfl co_X11_374 rfl rfl rfl rfl rfl ⟨⟨Nat.le_of_ble_eq_true rfl, Nat.le_of_ble_eq_true rfl⟩, ⟨Nat.le_of_ble_eq_true rfl, Nat.le_of_ble_eq_true rfl⟩, Nat.le_of_ble_eq_true rfl⟩ (cm_X5_growf I20 J21) rfl rfl (fun I22 J23 => ?_)
      exact S.mapB (s_X11_pathf_C40 l1 I22 J23)
    · refine S.iconst (-1 : Int32) 11 rfl (by decide) ?_
      exact S.iret 12 rfl rfl rfl (by decide) (by decide) rfl

/-! making with shapes by name -/
section SM
variable {ρ : Type} {fin : Fin' ρ} {M : MD} {R : Room} {mc ms : Nat} {cs : Nat × Nat} {pc : Nat} {lv : Lv} {st : List Value} {Z : List Kd} {I : HI} {J : HJ} {f : Option ρ}
theorem S.mkA {F : HI → HJ → Option ρ} {atype : ArrayType} {ty : FieldType} {n : Int32} (Z' : List Kd) (cs' : Nat × Nat) (n0 t N : Nat) (i : Nat) (hi : M.2.2.2.2[i]? = some (pc, .newarray atype, 2)) (hw : Cond.arrayClass (newarray.typeOf atype) ∈ wl) (hty : newarray.typeOf atype = ty) (htt : ∀ gA : Nat → ClassId, (tysO gA)[t - 1]? = some (gA t, ty))
    (hcel : ∀ (gA : Nat → ClassId) (ad : Nat → Nat) (cA : ClassId), ∃ a0 : vp_A, cel gA ad (fun _ => 0) (fun _ => 0) (t, N, []) = .inl (gA t, a0) ∧ vp_cell cA a0 = arrV cA N (fun _ => defaultValue ty)) (hn : ¬ n < 0) (hN : n.toNatClampNeg = N) (hb : N * componentBytes ty ≤ 536870912) (hz : zok Z = true) (hl0 : Z.length = n0) (hv : vld n0 lv st = true) (hZ : Z ++ [(t, N, [])] = Z') (hcs : (cs.1 + 1, cs.2 + N) = cs') (hc1 : cs.1 + 1 ≤ R.cells) (hc2 : cs.2 + N ≤ R.slots)
    (k : ∀ (I1 : HI) (J1 : HJ), S fin M R mc ms cs' (pc + 2) lv (.ref n0 :: st) (Z', I1, J1) (F I1 J1)) : S fin M R mc ms cs pc lv (.int n :: st) (Z, I, J) (lb (uf I n0 (fun _ => 0)) fun I1 => lb (ufj J n0 (fun _ => 0)) fun J1 => F I1 J1) := by
  subst hl0; subst hZ; subst hcs
  exact S.newa t N i hi hw hty htt hcel hn hN hb hz hv hc1 hc2 (k _ _)
theorem S.mkO {F : HI → HJ → Option ρ} {idx : Nat} {qc : vw_C} (Z' : List Kd) (cs' : Nat × Nat) (n0 ci N : Nat) (i : Nat) (hi : M.2.2.2.2[i]? = some (pc, .new idx, 3)) (hq : cl_all[ci]? = some qc) (hN : qc.2.2 = N) (hw1 : Cond.classLink M.1.cls idx qc.1 ∈ wl) (hw2 : Cond.instantiable qc.1 N ∈ wl) (hw3 : Cond.initialized qc.1 ∈ wl) (hdf : ∀ j, j < N → defaultValue (ctyp ci j) = fvl id (fun _ => 0) (fun _ => 0) ci (List.replicate N 0) j)
    (hz : zok Z = true) (hl0 : Z.length = n0) (hv : vld n0 lv st = true) (hZ : Z ++ [(0, ci, List.replicate N 0)] = Z') (hcs : (cs.1 + 1, cs.2 + N) = cs') (hc1 : cs.1 + 1 ≤ R.cells) (hc2 : cs.2 + N ≤ R.slots)
    (k : ∀ (I1 : HI) (J1 : HJ), S fin M R mc ms cs' (pc + 3) lv (.ref n0 :: st) (Z', I1, J1) (F I1 J1)) : S fin M R mc ms cs pc lv st (Z, I, J) (lb (uf I n0 (fun _ => 0)) fun I1 => lb (ufj J n0 (fun _ => 0)) fun J1 => F I1 J1) := by
  subst hl0; subst hZ; subst hcs
  exact S.new ci N i hi hq hN hw1 hw2 hw3 hdf hz hv hc1 hc2 (k _ _)
theorem S.mkQ {F : HI → HJ → Option ρ} {idx : Nat} {n : Int32} (Z' : List Kd) (cs' : Nat × Nat) (n0 N : Nat) (i : Nat) (hi : M.2.2.2.2[i]? = some (pc, .anewarray idx, 3)) (hw1 : Cond.classLink M.1.cls idx RX2 ∈ wl) (hn : ¬ n < 0) (hN : n.toNatClampNeg = N) (hb : N * 4 ≤ 536870912)
    (hz : zok Z = true) (hl0 : Z.length = n0) (hv : vld n0 lv st = true) (hZ : Z ++ [(6, N, List.replicate N 0)] = Z') (hcs : (cs.1 + 1, cs.2 + N) = cs') (hc1 : cs.1 + 1 ≤ R.cells) (hc2 : cs.2 + N ≤ R.slots)
    (k : ∀ (I1 : HI) (J1 : HJ), S fin M R mc ms cs' (pc + 3) lv (.ref n0 :: st) (Z', I1, J1) (F I1 J1)) : S fin M R mc ms cs pc lv (.int n :: st) (Z, I, J) (lb (uf I n0 (fun _ => 0)) fun I1 => lb (ufj J n0 (fun _ => 0)) fun J1 => F I1 J1) := by
  subst hl0; subst hZ; subst hcs
  exact S.newq N i hi hw1 hn hN hb hz hv hc1 hc2 (k _ _)
theorem S.ptR {idx ci j o r : Nat} {rs : List Nat} (Z' : List Kd) (i : Nat) (hi : M.2.2.2.2[i]? = some (pc, .putfield idx, 3)) (hf : FOk M.1.cls idx ci j) (hz : Z[o]? = some (0, ci, rs)) (ht : fk (ctyp ci j) = 2) (hn : ∀ a : Nat, narrow (ctyp ci j) (.ref a) = .ref a) (hfit : ∀ a : Nat, fits (ctyp ci j) (.ref a) = true) (hfin : FinOk M ci j) (hl : j < rs.length) (hZ : Z.set o (0, ci, rs.set j (r + 1)) = Z')
    (k : S fin M R mc ms cs (pc + 3) lv st (Z', I, J) f) : S fin M R mc ms cs pc lv (.ref r :: .ref o :: st) (Z, I, J) f := by
  subst hZ
  exact S.putR i hi hf hz ht hn hfit hfin hl k
theorem S.asR {o n r : Nat} {rs rs2 : List Nat} {x : Int32} (Z' : List Kd) (i : Nat) (hi : M.2.2.2.2[i]? = some (pc, .aastore, 1)) (hz : Z[o]? = some (6, n, rs)) (hz2 : Z[r]? = some (0, 2, rs2)) (hin : vp_in x n) (hl' : x.toNatClampNeg < rs.length) (hZ : Z.set o (6, n, rs.set x.toNatClampNeg (r + 1)) = Z')
    (k : S fin M R mc ms cs (pc + 1) lv st (Z', I, J) f) : S fin M R mc ms cs pc lv (.ref r :: .int x :: .ref o :: st) (Z, I, J) f := by
  subst hZ
  exact S.aast (ci := 0) i hi hz hz2 hin hl' k
theorem S.mcI {fc : Option (Unit × HI × HJ)} {F : Unit → HI → HJ → Option ρ} {Zb : List Kd} {idx n d mc' ms' b : Nat} {M' : MD} {av rs : List Value} (cs' : Nat × Nat) (i : Nat) (hi : M.2.2.2.2[i]? = some (pc, .invokespecial idx, 3)) (ho : IOk M.1.cls idx M' n) (hn : av.length = n) (hrs : av.reverse = rs) (hR : rOk R cs M' d mc' ms' st) (hM : CM M' d mc' ms' (.ref b :: av) (Z, I, J) (fV Zb) fc) (hv : vld Z.length lv st = true) (hcs : (cs.1 + mc', cs.2 + ms') = cs')
    (k : ∀ (I1 : HI) (J1 : HJ), S fin M R mc ms cs' (pc + 3) lv st (Zb, I1, J1) (F () I1 J1)) : S fin M R mc ms cs pc lv (rs ++ .ref b :: st) (Z, I, J) (cl fc F) := by
  subst hcs
  exact S.callI i hi ho hn hrs hR hM (Or.inl hv) (fun q => k q.2.1 q.2.2)
theorem S.mcN {fc : Option (Unit × HI × HJ)} {F : Unit → HI → HJ → Option ρ} {Zb : List Kd} {idx n d mc' ms' b : Nat} {M' : MD} {av rs : List Value} (cs' : Nat × Nat) (i : Nat) (hi : M.2.2.2.2[i]? = some (pc, .invokespecial idx, 3)) (ho : INOk M.1.cls idx M' n) (hn : av.length = n) (hrs : av.reverse = rs) (hR : rOk R cs M' d mc' ms' st) (hM : CM M' d mc' ms' (.ref b :: av) (Z, I, J) (fV Zb) fc) (hv : vld Z.length lv st = true) (hcs : (cs.1 + mc', cs.2 + ms') = cs')
    (k : ∀ (I1 : HI) (J1 : HJ), S fin M R mc ms cs' (pc + 3) lv st (Zb, I1, J1) (F () I1 J1)) : S fin M R mc ms cs pc lv (rs ++ .ref b :: st) (Z, I, J) (cl fc F) := by
  subst hcs
  exact S.callIN i hi ho hn hrs hR hM (Or.inl hv) (fun q => k q.2.1 q.2.2)
end SM
theorem cel_int (N : Nat) : ∀ (gA : Nat → ClassId) (ad : Nat → Nat) (cA : ClassId), ∃ a0 : vp_A, cel gA ad (fun _ => 0) (fun _ => 0) (1, N, []) = .inl (gA 1, a0) ∧ vp_cell cA a0 = arrV cA N (fun _ => defaultValue .int) := fun _ _ _ => ⟨_, rfl, rfl⟩
theorem cel_long (N : Nat) : ∀ (gA : Nat → ClassId) (ad : Nat → Nat) (cA : ClassId), ∃ a0 : vp_A, cel gA ad (fun _ => 0) (fun _ => 0) (2, N, []) = .inl (gA 2, a0) ∧ vp_cell cA a0 = arrV cA N (fun _ => defaultValue .long) := fun _ _ _ => ⟨_, rfl, rfl⟩
theorem cel_byte (N : Nat) : ∀ (gA : Nat → ClassId) (ad : Nat → Nat) (cA : ClassId), ∃ a0 : vp_A, cel gA ad (fun _ => 0) (fun _ => 0) (3, N, []) = .inl (gA 3, a0) ∧ vp_cell cA a0 = arrV cA N (fun _ => defaultValue .byte) := fun _ _ _ => ⟨_, rfl, rfl⟩
theorem cel_char (N : Nat) : ∀ (gA : Nat → ClassId) (ad : Nat → Nat) (cA : ClassId), ∃ a0 : vp_A, cel gA ad (fun _ => 0) (fun _ => 0) (4, N, []) = .inl (gA 4, a0) ∧ vp_cell cA a0 = arrV cA N (fun _ => defaultValue .char) := fun _ _ _ => ⟨_, rfl, rfl⟩
theorem cel_boolean (N : Nat) : ∀ (gA : Nat → ClassId) (ad : Nat → Nat) (cA : ClassId), ∃ a0 : vp_A, cel gA ad (fun _ => 0) (fun _ => 0) (5, N, []) = .inl (gA 5, a0) ∧ vp_cell cA a0 = arrV cA N (fun _ => defaultValue .boolean) := fun _ _ _ => ⟨_, rfl, rfl⟩
theorem df_X0 : ∀ j, j < 11 → defaultValue (ctyp 0 j) = fvl id (fun _ => 0) (fun _ => 0) 0 (List.replicate 11 0) j := by decide +kernel
theorem df_X1 : ∀ j, j < 20 → defaultValue (ctyp 1 j) = fvl id (fun _ => 0) (fun _ => 0) 1 (List.replicate 20 0) j := by decide +kernel
theorem df_X2 : ∀ j, j < 6 → defaultValue (ctyp 2 j) = fvl id (fun _ => 0) (fun _ => 0) 2 (List.replicate 6 0) j := by decide +kernel
theorem df_X3 : ∀ j, j < 7 → defaultValue (ctyp 3 j) = fvl id (fun _ => 0) (fun _ => 0) 3 (List.replicate 7 0) j := by decide +kernel
theorem df_X4 : ∀ j, j < 17 → defaultValue (ctyp 4 j) = fvl id (fun _ => 0) (fun _ => 0) 4 (List.replicate 17 0) j := by decide +kernel
theorem df_X5 : ∀ j, j < 12 → defaultValue (ctyp 5 j) = fvl id (fun _ => 0) (fun _ => 0) 5 (List.replicate 12 0) j := by decide +kernel
theorem df_X6 : ∀ j, j < 11 → defaultValue (ctyp 6 j) = fvl id (fun _ => 0) (fun _ => 0) 6 (List.replicate 11 0) j := by decide +kernel
theorem df_X7 : ∀ j, j < 9 → defaultValue (ctyp 7 j) = fvl id (fun _ => 0) (fun _ => 0) 7 (List.replicate 9 0) j := by decide +kernel
theorem df_X8 : ∀ j, j < 9 → defaultValue (ctyp 8 j) = fvl id (fun _ => 0) (fun _ => 0) 8 (List.replicate 9 0) j := by decide +kernel
theorem df_X9 : ∀ j, j < 2 → defaultValue (ctyp 9 j) = fvl id (fun _ => 0) (fun _ => 0) 9 (List.replicate 2 0) j := by decide +kernel
theorem df_X10 : ∀ j, j < 2 → defaultValue (ctyp 10 j) = fvl id (fun _ => 0) (fun _ => 0) 10 (List.replicate 2 0) j := by decide +kernel
theorem df_X11 : ∀ j, j < 11 → defaultValue (ctyp 11 j) = fvl id (fun _ => 0) (fun _ => 0) 11 (List.replicate 11 0) j := by decide +kernel
theorem df_X12 : ∀ j, j < 75 → defaultValue (ctyp 12 j) = fvl id (fun _ => 0) (fun _ => 0) 12 (List.replicate 75 0) j := by decide +kernel

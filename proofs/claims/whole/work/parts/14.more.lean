/-! a switch's way out; the classes' names are plain -/
theorem tsw_out {x : Int32} (lo hi : Int) (h : ∀ n : Int, lo ≤ n → n ≤ hi → ¬ x = Int32.ofInt n) : x.toInt < lo ∨ hi < x.toInt := by
  by_cases h1 : x.toInt < lo
  · exact Or.inl h1
  · by_cases h2 : hi < x.toInt
    · exact Or.inr h2
    · exact absurd (Int32.ofInt_toInt x).symm (h x.toInt (by omega) (by omega))
theorem pn_X0 : plainName mX0_hasWire.1.cls = true := by decide +kernel
theorem pn_X1 : plainName mX1_lay.1.cls = true := by decide +kernel
theorem pn_X2 : plainName mX2_take.1.cls = true := by decide +kernel
theorem pn_X3 : plainName mX3_clear.1.cls = true := by decide +kernel
theorem pn_X4 : plainName mX4_open.1.cls = true := by decide +kernel
theorem pn_X5 : plainName mX5_place.1.cls = true := by decide +kernel
theorem pn_X6 : plainName mX6_read.1.cls = true := by decide +kernel
theorem pn_X7 : plainName mX7_size.1.cls = true := by decide +kernel
theorem pn_X8 : plainName mX8_refresh.1.cls = true := by decide +kernel
theorem pn_X9 : plainName mX9_append.1.cls = true := by decide +kernel
theorem pn_X10 : plainName mX10_add.1.cls = true := by decide +kernel
theorem pn_X11 : plainName mX11_put.1.cls = true := by decide +kernel
theorem pn_X12 : plainName mX12_put.1.cls = true := by decide +kernel
theorem pn_J6 : plainName mJ6_bitCount_0f7a4.1.cls = true := by decide +kernel
theorem pn_J7 : plainName mJ7_fill_d0a16.1.cls = true := by decide +kernel
theorem pn_J13 : plainName mJ13_bitCount_95d88.1.cls = true := by decide +kernel
abbrev omax (x y : Int32) : Int32 := if x < y then y else x
abbrev omin (x y : Int32) : Int32 := if y < x then y else x
abbrev omaxl (x y : Int64) : Int64 := if y < x then x else y
theorem SOk.ws {own : String} {idx n : Nat} {M' : MD} (ho : SOk own idx M' n) : Cond.methodLink own idx M'.1 ∈ wl ∧ Cond.static M'.1 ∈ wl ∧ Cond.initialized M'.1.cls ∈ wl ∧ cdw M' ∈ wl :=
  ⟨(ho.1 _ (by simp [va_wsS])).1, (ho.1 _ (by simp [va_wsS])).1, (ho.1 _ (by simp [va_wsS])).1, (ho.1 _ (by simp [va_wsS])).1⟩
section GX
variable {ρ : Type} {fin : Fin' ρ} {M : MD} {R : Room} {mc ms : Nat} {E : Ex} {cs : Nat × Nat} {pc : Nat} {lv : Lv} {st : List Value} {h : Hp} {f : Option ρ}
abbrev mOk (R : Room) (cs : Nat × Nat) (st : List Value) : Prop := 1 ≤ R.frames ∧ 23 ≤ R.locals ∧ cs.1 ≤ R.cells ∧ cs.2 ≤ R.slots ∧ (st.map fun v => v.category).sum ≤ 8
theorem G.mmax {idx : Nat} {x y : Int32} (i : Nat) (hi : M.2.2.2.2[i]? = some (pc, .invokestatic idx, 3)) (ho : SOk M.1.cls idx mJ9_max_7cf53 2) (hR : mOk R cs st) (k : G M R E cs (pc + 3) lv (.int (omax x y) :: st) h) : G M R E cs pc lv (.int y :: .int x :: st) h :=
  G.go (fun p l e s m args below meth c Q A D gA H locs ls ad C hr hl kk => va_mmax C.x C.b (C.ml.trans hl.1.symm) C.own (C.ts _ ho.ws.1) (C.ts _ ho.ws.2.1) (C.ts _ ho.ws.2.2.1) (C.ts _ ho.ws.2.2.2) hR.1 (by have := cat_sum ad st; have := hR.2.1; have := hR.2.2.2.2; show ((st.map (cv ad)).map _).sum + 13 ≤ _; omega) hR.2.2.1 hR.2.2.2.1 (C.ok.at hi) kk) k
theorem G.mmin {idx : Nat} {x y : Int32} (i : Nat) (hi : M.2.2.2.2[i]? = some (pc, .invokestatic idx, 3)) (ho : SOk M.1.cls idx mJ9_min_7cf53 2) (hR : mOk R cs st) (k : G M R E cs (pc + 3) lv (.int (omin x y) :: st) h) : G M R E cs pc lv (.int y :: .int x :: st) h :=
  G.go (fun p l e s m args below meth c Q A D gA H locs ls ad C hr hl kk => va_mmin C.x C.b (C.ml.trans hl.1.symm) C.own (C.ts _ ho.ws.1) (C.ts _ ho.ws.2.1) (C.ts _ ho.ws.2.2.1) (C.ts _ ho.ws.2.2.2) hR.1 (by have := cat_sum ad st; have := hR.2.1; have := hR.2.2.2.2; show ((st.map (cv ad)).map _).sum + 13 ≤ _; omega) hR.2.2.1 hR.2.2.2.1 (C.ok.at hi) kk) k
theorem G.mmaxl {idx : Nat} {x y : Int64} (i : Nat) (hi : M.2.2.2.2[i]? = some (pc, .invokestatic idx, 3)) (ho : SOk M.1.cls idx mJ9_max_f86c9 2) (hR : mOk R cs st) (k : G M R E cs (pc + 3) lv (.long (omaxl x y) :: st) h) : G M R E cs pc lv (.long y :: .long x :: st) h :=
  G.go (fun p l e s m args below meth c Q A D gA H locs ls ad C hr hl kk => va_mmax_long C.x C.b (C.ml.trans hl.1.symm) C.own (C.ts _ ho.ws.1) (C.ts _ ho.ws.2.1) (C.ts _ ho.ws.2.2.1) (C.ts _ ho.ws.2.2.2) hR.1 (by have := cat_sum ad st; have := hR.2.1; have := hR.2.2.2.2; show ((st.map (cv ad)).map _).sum + 15 ≤ _; omega) hR.2.2.1 hR.2.2.2.1 (C.ok.at hi) kk) k
theorem S.mmax {idx : Nat} {x y : Int32} (i : Nat) (hi : M.2.2.2.2[i]? = some (pc, .invokestatic idx, 3)) (ho : SOk M.1.cls idx mJ9_max_7cf53 2) (hR : mOk R cs st) (k : S fin M R mc ms cs (pc + 3) lv (.int (omax x y) :: st) h f) : S fin M R mc ms cs pc lv (.int y :: .int x :: st) h f := fun r9 hf9 => G.mmax i hi ho hR (k r9 hf9)
theorem S.mmin {idx : Nat} {x y : Int32} (i : Nat) (hi : M.2.2.2.2[i]? = some (pc, .invokestatic idx, 3)) (ho : SOk M.1.cls idx mJ9_min_7cf53 2) (hR : mOk R cs st) (k : S fin M R mc ms cs (pc + 3) lv (.int (omin x y) :: st) h f) : S fin M R mc ms cs pc lv (.int y :: .int x :: st) h f := fun r9 hf9 => G.mmin i hi ho hR (k r9 hf9)
theorem S.mmaxl {idx : Nat} {x y : Int64} (i : Nat) (hi : M.2.2.2.2[i]? = some (pc, .invokestatic idx, 3)) (ho : SOk M.1.cls idx mJ9_max_f86c9 2) (hR : mOk R cs st) (k : S fin M R mc ms cs (pc + 3) lv (.long (omaxl x y) :: st) h f) : S fin M R mc ms cs pc lv (.long y :: .long x :: st) h f := fun r9 hf9 => G.mmaxl i hi ho hR (k r9 hf9)
end GX

/-! STEPS OF G: stores into fields, arrays, the static table, making -/
section GA
variable {M : MD} {R : Room} {E : Ex} {cs : Nat × Nat} {pc : Nat} {lv : Lv} {st : List Value} {h : Hp} {Z : List Kd} {I : Nat → Nat → Int32} {J : Nat → Nat → Int64}
theorem cnf_j {own : String} {idx ci j : Nat} (hf : FOk own idx ci j) : j < cnf ci := by
  obtain ⟨q, hq, hj, -⟩ := hf
  rw [cnf_of hq]
  exact hj
abbrev FinOk (M : MD) (ci j : Nat) : Prop := ∀ q : vw_C, cl_all[ci]? = some q → (q.2.1 j).2.2.2 = false ∨ ((q.2.1 j).2.2.2 = true ∧ M.1.name = "<init>" ∧ (q.2.1 j).1 = M.1.cls)
theorem G.putI {idx ci j o : Nat} {rs : List Nat} {v : Int32} (i : Nat) (hi : M.2.2.2.2[i]? = some (pc, .putfield idx, 3)) (hf : FOk M.1.cls idx ci j) (hz : Z[o]? = some (0, ci, rs)) (ht : fk (ctyp ci j) = 0) (hn : narrow (ctyp ci j) (.int v) = .int v) (hfit : fits (ctyp ci j) (.int v) = true) (hfin : FinOk M ci j)
    (k : G M R E cs (pc + 3) lv st (Z, ui I o j v, J)) : G M R E cs pc lv (.int v :: .ref o :: st) (Z, I, J) :=
  G.putV (h' := (Z, ui I o j v, J)) i hi hf hz (fun _ => hn) (fun _ => hfit) hfin rfl (fun gA ad => by
    show (wsO gA ad (Z, I, J)).set o (ad o, .inr (ci, (flds ad (I o) (J o) ci rs).set j (.int v))) = _
    rw [flds_setI (cnf_j hf) ht]; exact wsO_setI hz) k
theorem G.putJ {idx ci j o : Nat} {rs : List Nat} {v : Int64} (i : Nat) (hi : M.2.2.2.2[i]? = some (pc, .putfield idx, 3)) (hf : FOk M.1.cls idx ci j) (hz : Z[o]? = some (0, ci, rs)) (ht : fk (ctyp ci j) = 1) (hn : narrow (ctyp ci j) (.long v) = .long v) (hfit : fits (ctyp ci j) (.long v) = true) (hfin : FinOk M ci j)
    (k : G M R E cs (pc + 3) lv st (Z, I, uj J o j v)) : G M R E cs pc lv (.long v :: .ref o :: st) (Z, I, J) :=
  G.putV (h' := (Z, I, uj J o j v)) i hi hf hz (fun _ => hn) (fun _ => hfit) hfin rfl (fun gA ad => by
    show (wsO gA ad (Z, I, J)).set o (ad o, .inr (ci, (flds ad (I o) (J o) ci rs).set j (.long v))) = _
    rw [flds_setJ (cnf_j hf) ht]; exact wsO_setJ hz) k
theorem G.putR {idx ci j o r : Nat} {rs : List Nat} (i : Nat) (hi : M.2.2.2.2[i]? = some (pc, .putfield idx, 3)) (hf : FOk M.1.cls idx ci j) (hz : Z[o]? = some (0, ci, rs)) (ht : fk (ctyp ci j) = 2) (hn : ∀ a : Nat, narrow (ctyp ci j) (.ref a) = .ref a) (hfit : ∀ a : Nat, fits (ctyp ci j) (.ref a) = true) (hfin : FinOk M ci j) (hl : j < rs.length)
    (k : G M R E cs (pc + 3) lv st (Z.set o (0, ci, rs.set j (r + 1)), I, J)) : G M R E cs pc lv (.ref r :: .ref o :: st) (Z, I, J) :=
  G.putV (h' := (Z.set o (0, ci, rs.set j (r + 1)), I, J)) i hi hf hz (fun ad => hn (ad r)) (fun ad => hfit (ad r)) hfin (List.length_set ..) (fun gA ad => by
    show (wsO gA ad (Z, I, J)).set o (ad o, .inr (ci, (flds ad (I o) (J o) ci rs).set j (rfv ad (r + 1)))) = _
    rw [flds_setR (cnf_j hf) ht hl]; exact wsO_setZ (kd' := (0, ci, rs.set j (r + 1))) (List.getElem?_eq_some_iff.mp hz).1) k
-- loads
theorem G.iald {o n : Nat} {rs : List Nat} {x : Int32} (i : Nat) (hi : M.2.2.2.2[i]? = some (pc, .iaload, 1)) (hz : Z[o]? = some (1, n, rs)) (hin : vp_in x n) (k : G M R E cs (pc + 1) lv (.int (I o x.toNatClampNeg) :: st) (Z, I, J)) : G M R E cs pc lv (.int x :: .ref o :: st) (Z, I, J) :=
  G.go (fun p l e s m args below meth c Q A D gA H locs ls ad C hr hl kk => va_iald C.x C.b C.K hr.1 o 0 (wsO_get (gA := gA) (ad := ad) (h := (Z, I, J)) hz) rfl hin (C.ok.at hi) kk) k
theorem G.bald {o n : Nat} {rs : List Nat} {x : Int32} (i : Nat) (hi : M.2.2.2.2[i]? = some (pc, .baload, 1)) (hz : Z[o]? = some (3, n, rs)) (hin : vp_in x n) (k : G M R E cs (pc + 1) lv (.int (I o x.toNatClampNeg) :: st) (Z, I, J)) : G M R E cs pc lv (.int x :: .ref o :: st) (Z, I, J) :=
  G.go (fun p l e s m args below meth c Q A D gA H locs ls ad C hr hl kk => va_bald C.x C.b C.K hr.1 o 2 (wsO_get (gA := gA) (ad := ad) (h := (Z, I, J)) hz) rfl hin (C.ok.at hi) kk) k
theorem G.zald {o n : Nat} {rs : List Nat} {x : Int32} (i : Nat) (hi : M.2.2.2.2[i]? = some (pc, .baload, 1)) (hz : Z[o]? = some (5, n, rs)) (hin : vp_in x n) (k : G M R E cs (pc + 1) lv (.int (I o x.toNatClampNeg) :: st) (Z, I, J)) : G M R E cs pc lv (.int x :: .ref o :: st) (Z, I, J) :=
  G.go (fun p l e s m args below meth c Q A D gA H locs ls ad C hr hl kk => va_zald C.x C.b C.K hr.1 o 4 (wsO_get (gA := gA) (ad := ad) (h := (Z, I, J)) hz) rfl hin (C.ok.at hi) kk) k
theorem G.cald {o n : Nat} {rs : List Nat} {x : Int32} (i : Nat) (hi : M.2.2.2.2[i]? = some (pc, .caload, 1)) (hz : Z[o]? = some (4, n, rs)) (hin : vp_in x n) (k : G M R E cs (pc + 1) lv (.int (I o x.toNatClampNeg) :: st) (Z, I, J)) : G M R E cs pc lv (.int x :: .ref o :: st) (Z, I, J) :=
  G.go (fun p l e s m args below meth c Q A D gA H locs ls ad C hr hl kk => va_cald C.x C.b C.K hr.1 o 3 (wsO_get (gA := gA) (ad := ad) (h := (Z, I, J)) hz) rfl hin (C.ok.at hi) kk) k
theorem G.lald {o n : Nat} {rs : List Nat} {x : Int32} (i : Nat) (hi : M.2.2.2.2[i]? = some (pc, .laload, 1)) (hz : Z[o]? = some (2, n, rs)) (hin : vp_in x n) (k : G M R E cs (pc + 1) lv (.long (J o x.toNatClampNeg) :: st) (Z, I, J)) : G M R E cs pc lv (.int x :: .ref o :: st) (Z, I, J) :=
  G.go (fun p l e s m args below meth c Q A D gA H locs ls ad C hr hl kk => va_lald C.x C.b C.K hr.1 o 1 (wsO_get (gA := gA) (ad := ad) (h := (Z, I, J)) hz) rfl hin (C.ok.at hi) kk) k
theorem G.aald {o n r : Nat} {rs : List Nat} {x : Int32} (i : Nat) (hi : M.2.2.2.2[i]? = some (pc, .aaload, 1)) (hz : Z[o]? = some (6, n, rs)) (hin : vp_in x n) (hr' : rs.getD x.toNatClampNeg 0 = r + 1) (k : G M R E cs (pc + 1) lv (.ref r :: st) (Z, I, J)) : G M R E cs pc lv (.int x :: .ref o :: st) (Z, I, J) :=
  G.go (fun p l e s m args below meth c Q A D gA H locs ls ad C hr hl kk => va_aldq C.x C.b C.K hr.1 o 5 (wsO_get (gA := gA) (ad := ad) (h := (Z, I, J)) hz) rfl hin (C.ok.at hi) (by
    show W p l e R s m args below meth c H locs cs.1 cs.2 Q (F0 m (pc + 1) ls (va_rf (rfo ad (rs.getD x.toNatClampNeg 0)) :: _))
    rw [hr']; exact kk)) k
-- stores
theorem G.iast {o n : Nat} {rs : List Nat} {x v : Int32} (i : Nat) (hi : M.2.2.2.2[i]? = some (pc, .iastore, 1)) (hz : Z[o]? = some (1, n, rs)) (hin : vp_in x n) (k : G M R E cs (pc + 1) lv st (Z, ui I o x.toNatClampNeg v, J)) : G M R E cs pc lv (.int v :: .int x :: .ref o :: st) (Z, I, J) := by
  intro p l e s m args below meth c Q A D gA H locs ls ad C hr hl hE
  refine va_iast C.x C.b C.K hr.1 hr.2.1 hr.2.2 o 0 (wsO_get (gA := gA) (ad := ad) (h := (Z, I, J)) hz) rfl hin (C.ok.at hi) fun H1 locs1 g1 g2 g3 => ?_
  have hw := wsO_setI (gA := gA) (ad := ad) (I := I) (J := J) (i := x.toNatClampNeg) (v := v) hz
  exact k p l e s m args below meth c Q A D gA H1 locs1 ls ad C ⟨by rw [← hw]; exact g1, by rw [← hw]; exact g2, g3⟩ hl hE
theorem G.bast {o n : Nat} {rs : List Nat} {x v : Int32} (i : Nat) (hi : M.2.2.2.2[i]? = some (pc, .bastore, 1)) (hz : Z[o]? = some (3, n, rs)) (hin : vp_in x n) (k : G M R E cs (pc + 1) lv st (Z, ui I o x.toNatClampNeg (vp_nar .byte v), J)) : G M R E cs pc lv (.int v :: .int x :: .ref o :: st) (Z, I, J) := by
  intro p l e s m args below meth c Q A D gA H locs ls ad C hr hl hE
  refine va_bast C.x C.b C.K hr.1 hr.2.1 hr.2.2 o 2 (wsO_get (gA := gA) (ad := ad) (h := (Z, I, J)) hz) rfl hin (C.ok.at hi) fun H1 locs1 g1 g2 g3 => ?_
  have hw := wsO_setI (gA := gA) (ad := ad) (I := I) (J := J) (i := x.toNatClampNeg) (v := vp_nar .byte v) hz
  exact k p l e s m args below meth c Q A D gA H1 locs1 ls ad C ⟨by rw [← hw]; exact g1, by rw [← hw]; exact g2, g3⟩ hl hE
theorem G.zast {o n : Nat} {rs : List Nat} {x v : Int32} (i : Nat) (hi : M.2.2.2.2[i]? = some (pc, .bastore, 1)) (hz : Z[o]? = some (5, n, rs)) (hin : vp_in x n) (k : G M R E cs (pc + 1) lv st (Z, ui I o x.toNatClampNeg (vp_nar .boolean v), J)) : G M R E cs pc lv (.int v :: .int x :: .ref o :: st) (Z, I, J) := by
  intro p l e s m args below meth c Q A D gA H locs ls ad C hr hl hE
  refine va_zast C.x C.b C.K hr.1 hr.2.1 hr.2.2 o 4 (wsO_get (gA := gA) (ad := ad) (h := (Z, I, J)) hz) rfl hin (C.ok.at hi) fun H1 locs1 g1 g2 g3 => ?_
  have hw := wsO_setI (gA := gA) (ad := ad) (I := I) (J := J) (i := x.toNatClampNeg) (v := vp_nar .boolean v) hz
  exact k p l e s m args below meth c Q A D gA H1 locs1 ls ad C ⟨by rw [← hw]; exact g1, by rw [← hw]; exact g2, g3⟩ hl hE
theorem G.cast {o n : Nat} {rs : List Nat} {x v : Int32} (i : Nat) (hi : M.2.2.2.2[i]? = some (pc, .castore, 1)) (hz : Z[o]? = some (4, n, rs)) (hin : vp_in x n) (k : G M R E cs (pc + 1) lv st (Z, ui I o x.toNatClampNeg (vp_nar .char v), J)) : G M R E cs pc lv (.int v :: .int x :: .ref o :: st) (Z, I, J) := by
  intro p l e s m args below meth c Q A D gA H locs ls ad C hr hl hE
  refine va_cast C.x C.b C.K hr.1 hr.2.1 hr.2.2 o 3 (wsO_get (gA := gA) (ad := ad) (h := (Z, I, J)) hz) rfl hin (C.ok.at hi) fun H1 locs1 g1 g2 g3 => ?_
  have hw := wsO_setI (gA := gA) (ad := ad) (I := I) (J := J) (i := x.toNatClampNeg) (v := vp_nar .char v) hz
  exact k p l e s m args below meth c Q A D gA H1 locs1 ls ad C ⟨by rw [← hw]; exact g1, by rw [← hw]; exact g2, g3⟩ hl hE
theorem G.last {o n : Nat} {rs : List Nat} {x : Int32} {v : Int64} (i : Nat) (hi : M.2.2.2.2[i]? = some (pc, .lastore, 1)) (hz : Z[o]? = some (2, n, rs)) (hin : vp_in x n) (k : G M R E cs (pc + 1) lv st (Z, I, uj J o x.toNatClampNeg v)) : G M R E cs pc lv (.long v :: .int x :: .ref o :: st) (Z, I, J) := by
  intro p l e s m args below meth c Q A D gA H locs ls ad C hr hl hE
  refine va_last C.x C.b C.K hr.1 hr.2.1 hr.2.2 o 1 (wsO_get (gA := gA) (ad := ad) (h := (Z, I, J)) hz) rfl hin (C.ok.at hi) fun H1 locs1 g1 g2 g3 => ?_
  have hw := wsO_setJ (gA := gA) (ad := ad) (I := I) (J := J) (i := x.toNatClampNeg) (v := v) hz
  exact k p l e s m args below meth c Q A D gA H1 locs1 ls ad C ⟨by rw [← hw]; exact g1, by rw [← hw]; exact g2, g3⟩ hl hE
theorem G.aast {o n r ci : Nat} {rs rs2 : List Nat} {x : Int32} (i : Nat) (hi : M.2.2.2.2[i]? = some (pc, .aastore, 1)) (hz : Z[o]? = some (6, n, rs)) (hz2 : Z[r]? = some (0, 2, rs2)) (hin : vp_in x n) (hl' : x.toNatClampNeg < rs.length) (k : G M R E cs (pc + 1) lv st (Z.set o (6, n, rs.set x.toNatClampNeg (r + 1)), I, J)) : G M R E cs pc lv (.ref r :: .int x :: .ref o :: st) (Z, I, J) := by
  intro p l e s m args below meth c Q A D gA H locs ls ad C hr hl hE
  refine va_astq C.x C.b C.K hr.1 hr.2.1 hr.2.2 o 5 r 2 (r := (RX2, TX2, 6)) (wsO_get (gA := gA) (ad := ad) (h := (Z, I, J)) hz) rfl (wsO_get (gA := gA) (ad := ad) (h := (Z, I, J)) hz2) rfl hin (C.ok.at hi) fun H1 locs1 g1 g2 g3 => ?_
  have hf : (va_up (fun i => rfo ad (rs.getD i 0)) x.toNatClampNeg (some (ad r))) = fun i => rfo ad ((rs.set x.toNatClampNeg (r + 1)).getD i 0) := by
    funext q
    by_cases hq : q = x.toNatClampNeg
    · subst hq
      simp [va_up, List.getD_eq_getElem?_getD, hl', rfo]
    · simp [va_up, List.getD_eq_getElem?_getD, List.getElem?_set_ne (Ne.symm hq), hq]
  have hw := wsO_setZ (gA := gA) (ad := ad) (I := I) (J := J) (k := o) (kd' := (6, n, rs.set x.toNatClampNeg (r + 1))) (List.getElem?_eq_some_iff.mp hz).1
  have hw2 : (ad o, (Sum.inl (gA 6, n, .inr (.inr (.inr (.inr (va_up (fun i => rfo ad (rs.getD i 0)) x.toNatClampNeg (some (ad r))))))) : va_E)) = (ad o, cel gA ad (I o) (J o) (6, n, rs.set x.toNatClampNeg (r + 1))) := by
    rw [hf]; rfl
  rw [hw2, hw] at g1 g2
  exact k p l e s m args below meth c Q A D gA H1 locs1 ls ad C ⟨g1, g2, g3⟩ hl (by show _; rw [List.length_set]; exact hE)
theorem cel_t {gA : Nat → ClassId} {ad : Nat → Nat} {Ik : Nat → Int32} {Jk : Nat → Int64} {t n : Nat} {rs : List Nat} (h0 : 1 ≤ t) : ∃ x : vp_A, cel gA ad Ik Jk (t, n, rs) = .inl (gA t, x) ∧ x.1 = n := by
  match t, h0 with
  | 1, _ => exact ⟨_, rfl, rfl⟩
  | 2, _ => exact ⟨_, rfl, rfl⟩
  | 3, _ => exact ⟨_, rfl, rfl⟩
  | 4, _ => exact ⟨_, rfl, rfl⟩
  | 5, _ => exact ⟨_, rfl, rfl⟩
  | 6, _ => exact ⟨_, rfl, rfl⟩
  | t + 7, _ => exact ⟨_, rfl, rfl⟩
theorem G.alen {o t n : Nat} {rs : List Nat} (v : Int32) (i : Nat) (hi : M.2.2.2.2[i]? = some (pc, .arraylength, 1)) (hz : h.1[o]? = some (t, n, rs)) (h0 : 1 ≤ t) (h6 : t ≤ 6) (hv : Int32.ofNat n = v) (k : G M R E cs (pc + 1) lv (.int v :: st) h) : G M R E cs pc lv (.ref o :: st) h := by
  refine G.go (fun p l e s m args below meth c Q A D gA H locs ls ad C hr hl kk => ?_) k
  obtain ⟨x, hx, hx1⟩ := cel_t (gA := gA) (ad := ad) (Ik := h.2.1 o) (Jk := h.2.2 o) (n := n) (rs := rs) h0
  have hg := wsO_get (gA := gA) (ad := ad) hz
  rw [hx] at hg
  obtain ⟨ty, hty⟩ : ∃ ty, (tysO gA)[t - 1]? = some (gA t, ty) := by
    match t, h0, h6 with
    | 1, _, _ => exact ⟨_, rfl⟩
    | 2, _, _ => exact ⟨_, rfl⟩
    | 3, _, _ => exact ⟨_, rfl⟩
    | 4, _, _ => exact ⟨_, rfl⟩
    | 5, _, _ => exact ⟨_, rfl⟩
    | 6, _, _ => exact ⟨_, rfl⟩
  exact va_alen C.x C.b C.K hr.1 o (t - 1) hg hty (by rw [hx1]; exact hv) (C.ok.at hi) kk
-- the static table
def shI (k : Nat) : Int32 := ([0, 27720, 13860, 9240, 6930, 5544, 4620, 3960, 3465, 3080, 2772, 2520] : List Int32).getD k 0
theorem G.gets {idx : Nat} (i : Nat) (hi : M.2.2.2.2[i]? = some (pc, .getstatic idx, 3)) (hf : Cond.fieldLink M.1.cls idx "NinetyLamps$Flow" "SHARES" "[I" ∈ wl) (k : G M R E cs (pc + 3) lv (.ref shx :: st) h) : G M R E cs pc lv st h :=
  G.go (fun p l e s m args below meth c Q A D gA H locs ls ad C hr hl kk => va_gets C.x C.b C.sh.1 hr.2.2 C.own (C.ts _ hf) (fun _ h => h) (C.ok.at hi) kk) k
theorem G.shld {x : Int32} (i : Nat) (hi : M.2.2.2.2[i]? = some (pc, .iaload, 1)) (hin : vp_in x 12) (k : G M R E cs (pc + 1) lv (.int (shI x.toNatClampNeg) :: st) h) : G M R E cs pc lv (.int x :: .ref shx :: st) h :=
  G.go (fun p l e s m args below meth c Q A D gA H locs ls ad C hr hl kk => va_ti C.x C.b C.sh.2.1 hr.2.2 hin rfl (C.ok.at hi) kk) k
theorem G.shlen (i : Nat) (hi : M.2.2.2.2[i]? = some (pc, .arraylength, 1)) (k : G M R E cs (pc + 1) lv (.int 12 :: st) h) : G M R E cs pc lv (.ref shx :: st) h :=
  G.go (fun p l e s m args below meth c Q A D gA H locs ls ad C hr hl kk => va_tlen C.x C.b C.sh.2.1 hr.2.2 (by decide) (C.ok.at hi) kk) k
end GA

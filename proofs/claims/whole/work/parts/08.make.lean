/-! STEPS OF G: making objects and arrays; arraycopy -/
def uf (I : Nat → Nat → Int32) (k : Nat) (f : Nat → Int32) : Nat → Nat → Int32 := fun a => if a = k then f else I a
def ufj (J : Nat → Nat → Int64) (k : Nat) (f : Nat → Int64) : Nat → Nat → Int64 := fun a => if a = k then f else J a
theorem wsO_setF {gA : Nat → ClassId} {ad : Nat → Nat} {Z : List Kd} {I : Nat → Nat → Int32} {J : Nat → Nat → Int64} {k : Nat} {f : Nat → Int32} {kd : Kd} (hz : Z[k]? = some kd) :
    (wsO gA ad (Z, I, J)).set k (ad k, cel gA ad f (J k) kd) = wsO gA ad (Z, uf I k f, J) := by
  apply List.ext_getElem?
  intro n
  by_cases hn : n = k
  · subst hn
    have hl : n < Z.length := (List.getElem?_eq_some_iff.mp hz).1
    rw [List.getElem?_set_self (by simpa [wsO] using hl), wsO_get hz]
    simp [uf]
  · rw [List.getElem?_set_ne (Ne.symm hn)]
    simp [wsO, List.getElem?_mapIdx, uf, hn]
theorem wsO_setFj {gA : Nat → ClassId} {ad : Nat → Nat} {Z : List Kd} {I : Nat → Nat → Int32} {J : Nat → Nat → Int64} {k : Nat} {f : Nat → Int64} {kd : Kd} (hz : Z[k]? = some kd) :
    (wsO gA ad (Z, I, J)).set k (ad k, cel gA ad (I k) f kd) = wsO gA ad (Z, I, ufj J k f) := by
  apply List.ext_getElem?
  intro n
  by_cases hn : n = k
  · subst hn
    have hl : n < Z.length := (List.getElem?_eq_some_iff.mp hz).1
    rw [List.getElem?_set_self (by simpa [wsO] using hl), wsO_get hz]
    simp [ufj]
  · rw [List.getElem?_set_ne (Ne.symm hn)]
    simp [wsO, List.getElem?_mapIdx, ufj, hn]
def zok (Z : List Kd) : Bool := Z.all (fun kd => kd.2.2.all (fun r => decide (r ≤ Z.length))) && decide (Z.length < shx)
theorem rfv_ok {n n' : Nat} {ad ad' : Nat → Nat} (hx : Ext n ad n' ad') {r : Nat} (h : r ≤ n) : rfv ad' r = rfv ad r := by
  cases r with
  | zero => rfl
  | succ k => simp only [rfv]; rw [hx.2.1 k (Or.inl h)]
theorem rfo_ok {n n' : Nat} {ad ad' : Nat → Nat} (hx : Ext n ad n' ad') {r : Nat} (h : r ≤ n) : rfo ad' r = rfo ad r := by
  cases r with
  | zero => rfl
  | succ k => simp only [rfo]; rw [hx.2.1 k (Or.inl h)]
theorem getD_le {rs : List Nat} {n j : Nat} (h : rs.all (fun r => decide (r ≤ n)) = true) : rs.getD j 0 ≤ n := by
  rw [List.getD_eq_getElem?_getD]
  cases hj : rs[j]? with
  | none => exact Nat.zero_le _
  | some r => exact of_decide_eq_true (List.all_eq_true.mp h r (List.mem_of_getElem? hj))
theorem cel_ok {gA : Nat → ClassId} {n n' : Nat} {ad ad' : Nat → Nat} {Ik : Nat → Int32} {Jk : Nat → Int64} (hx : Ext n ad n' ad') {kd : Kd} (h : kd.2.2.all (fun r => decide (r ≤ n)) = true) : cel gA ad' Ik Jk kd = cel gA ad Ik Jk kd := by
  obtain ⟨t, m, rs⟩ := kd
  match t with
  | 0 =>
    show Sum.inr (m, flds ad' Ik Jk m rs) = Sum.inr (m, flds ad Ik Jk m rs)
    have hf : flds ad' Ik Jk m rs = flds ad Ik Jk m rs := by
      refine List.map_congr_left fun j _ => ?_
      unfold fvl
      rw [rfv_ok hx (getD_le h)]
    rw [hf]
  | 1 => rfl
  | 2 => rfl
  | 3 => rfl
  | 4 => rfl
  | 5 => rfl
  | 6 =>
    have hf : (fun i => rfo ad' (rs.getD i 0)) = (fun i => rfo ad (rs.getD i 0)) := by
      funext i
      exact rfo_ok hx (getD_le h)
    show Sum.inl (gA 6, m, Sum.inr (Sum.inr (Sum.inr (Sum.inr (fun i => rfo ad' (rs.getD i 0)))))) = _
    rw [hf]
    rfl
  | t + 7 => rfl
def adN (ad : Nat → Nat) (n q : Nat) : Nat → Nat := fun k => if k = n then q else ad k
theorem adN_ext {ad : Nat → Nat} {n q : Nat} (hn : n < shx) : Ext n ad (n + 1) (adN ad n q) :=
  ⟨Nat.le_succ n, fun k hk => if_neg (by rcases hk with h | h <;> omega), fun h => absurd h (by omega)⟩
theorem wsO_new {gA : Nat → ClassId} {ad : Nat → Nat} {Z : List Kd} {I : Nat → Nat → Int32} {J : Nat → Nat → Int64} {kd : Kd} {q : Nat} (hz : zok Z = true) (hkd : kd.2.2.all (fun r => decide (r ≤ 0)) = true) :
    wsO gA (adN ad Z.length q) (Z ++ [kd], uf I Z.length (fun _ => 0), ufj J Z.length (fun _ => 0)) = wsO gA ad (Z, I, J) ++ [(q, cel gA ad (fun _ => 0) (fun _ => 0) kd)] := by
  simp only [zok, Bool.and_eq_true, decide_eq_true_eq] at hz
  have hx : Ext Z.length ad (Z.length + 1) (adN ad Z.length q) := adN_ext hz.2
  unfold wsO
  rw [List.mapIdx_append]
  congr 1
  · apply List.ext_getElem?
    intro n
    simp only [List.getElem?_mapIdx]
    cases hn : Z[n]? with
    | none => rfl
    | some k0 =>
      have hl : n < Z.length := (List.getElem?_eq_some_iff.mp hn).1
      have hne : n ≠ Z.length := by omega
      simp only [Option.map_some, uf, ufj, if_neg hne]
      rw [cel_ok hx (List.all_eq_true.mp hz.1 k0 (List.mem_of_getElem? hn)), hx.2.1 n (Or.inl hl)]
  · simp only [List.mapIdx_cons, List.mapIdx_nil, Nat.zero_add, uf, ufj, adN, if_true]
    rw [cel_ok (n := 0) (n' := Z.length + 1) (ad := ad) (ad' := adN ad Z.length q) ⟨Nat.zero_le _, fun k hk => ?_, fun h => absurd h (by omega)⟩ hkd]
    exact hx.2.1 k (by rcases hk with h | h; omega; exact Or.inr h)
theorem RA_inj {s : State} {a b : ClassId} {ty : FieldType} (ha : va_RA s a ty) (hb : va_RA s b ty) : a = b := by
  cases ty with
  | object C =>
    obtain ⟨kA, comp, h1, h2, h3, h4⟩ := ha
    obtain ⟨kB, comp', g1, g2, g3, g4⟩ := hb
    exact Option.some.inj (h4.symm.trans g4)
  | _ => exact Option.some.inj (Eq.trans (Eq.symm ha) hb)
section GN
variable {M : MD} {R : Room} {E : Ex} {cs : Nat × Nat} {pc : Nat} {lv : Lv} {st : List Value} {Z : List Kd} {I : Nat → Nat → Int32} {J : Nat → Nat → Int64}
theorem G.newa {atype : ArrayType} {ty : FieldType} {n : Int32} (t N : Nat) (i : Nat) (hi : M.2.2.2.2[i]? = some (pc, .newarray atype, 2)) (hw : Cond.arrayClass (newarray.typeOf atype) ∈ wl) (hty : newarray.typeOf atype = ty) (htt : ∀ gA : Nat → ClassId, (tysO gA)[t - 1]? = some (gA t, ty))
    (hcel : ∀ (gA : Nat → ClassId) (ad : Nat → Nat) (cA : ClassId), ∃ a0 : vp_A, cel gA ad (fun _ => 0) (fun _ => 0) (t, N, []) = .inl (gA t, a0) ∧ vp_cell cA a0 = arrV cA N (fun _ => defaultValue ty)) (hn : ¬ n < 0) (hN : n.toNatClampNeg = N) (hb : N * componentBytes ty ≤ 536870912) (hz : zok Z = true) (hv : vld Z.length lv st = true) (hc1 : cs.1 + 1 ≤ R.cells) (hc2 : cs.2 + N ≤ R.slots)
    (k : G M R E (cs.1 + 1, cs.2 + N) (pc + 2) lv (.ref Z.length :: st) (Z ++ [(t, N, [])], uf I Z.length (fun _ => 0), ufj J Z.length (fun _ => 0))) : G M R E cs pc lv (.int n :: st) (Z, I, J) := by
  intro p l e s m args below meth c Q A D gA H locs ls ad C hr hl hE
  obtain ⟨a0, ha0, -⟩ := hcel gA ad (gA t)
  have hac : ∀ cA : ClassId, vp_cell cA a0 = arrV cA N (fun _ => defaultValue ty) := fun cA => by
    obtain ⟨a1, ha1, ha2⟩ := hcel gA ad cA
    rw [ha0] at ha1
    cases Sum.inl.inj ha1
    exact ha2
  refine va_newa C.x C.b (C.ts _ hw) hty C.K hr.1 hr.2.1 hr.2.2 C.hA hac hn hN hb hc1 hc2 (C.ok.at hi) fun q cA H1 hK1 hP1 hD1 hS1 => ?_
  have hzz := hz
  simp only [zok, Bool.and_eq_true, decide_eq_true_eq] at hz
  have hx : Ext Z.length ad (Z.length + 1) (adN ad Z.length q) := adN_ext hz.2
  have h1 : va_RA s cA ty := (hK1.2 (tysO gA).length (cA, _) (by simp)).2
  have h2 : va_RA s (gA t) ty := (C.K.2 (t - 1) _ (htt gA)).2
  cases RA_inj h1 h2
  rw [← ha0, ← wsO_new (q := q) hzz rfl] at hP1 hD1
  have hvv := vld_lv (lv := lv) (st := st) hx (Or.inl hv)
  have hs : adN ad Z.length q shx = ad shx := hx.2.1 _ (Or.inr (Nat.le_refl _))
  have kk := k p l e s m args below meth c Q A D gA H1 locs ls (adN ad Z.length q) (by rw [hs]; exact C) ⟨hP1, hD1, hS1⟩ (by rw [hvv.1]; exact hl) (fun cs2 pc2 lv2 st2 h2 H2 l2 ls2 ad2 he2 hx2 hr2 hl2 => hE cs2 pc2 lv2 st2 h2 H2 l2 ls2 ad2 he2 (hx.tr (by simpa using hx2)) hr2 hl2)
  rw [List.map_cons, hvv.2] at kk
  have e1 : cv (adN ad Z.length q) (.ref Z.length) = .ref q := by show Value.ref (adN ad Z.length q Z.length) = _; simp [adN]
  rw [e1] at kk
  exact kk
theorem G.new {idx : Nat} (ci N : Nat) {qc : vw_C} (i : Nat) (hi : M.2.2.2.2[i]? = some (pc, .new idx, 3)) (hq : cl_all[ci]? = some qc) (hN : qc.2.2 = N) (hw1 : Cond.classLink M.1.cls idx qc.1 ∈ wl) (hw2 : Cond.instantiable qc.1 N ∈ wl) (hw3 : Cond.initialized qc.1 ∈ wl) (hdf : ∀ j, j < N → defaultValue (ctyp ci j) = fvl id (fun _ => 0) (fun _ => 0) ci (List.replicate N 0) j)
    (hz : zok Z = true) (hv : vld Z.length lv st = true) (hc1 : cs.1 + 1 ≤ R.cells) (hc2 : cs.2 + N ≤ R.slots)
    (k : G M R E (cs.1 + 1, cs.2 + N) (pc + 3) lv (.ref Z.length :: st) (Z ++ [(0, ci, List.replicate N 0)], uf I Z.length (fun _ => 0), ufj J Z.length (fun _ => 0))) : G M R E cs pc lv st (Z, I, J) := by
  intro p l e s m args below meth c Q A D gA H locs ls ad C hr hl hE
  subst hN
  have hk := cok hq
  refine va_new (ci := ci) (fs := flds ad (fun _ => 0) (fun _ => 0) ci (List.replicate qc.2.2 0)) C.x C.b C.ts hk.1 (ctyp ci) hk.2.1 C.own (C.ts _ hw1) (C.ts _ hw2) (C.ts _ hw3) C.K hr.1 hr.2.1 hr.2.2 C.hA hq (fun j hj => ?_) hc1 hc2 (C.ok.at hi) fun q H1 hP1 hD1 hS1 => ?_
  · rw [vp_V, List.getD_eq_getElem?_getD, flds_get (by rw [cnf_of hq]; exact hj), hdf j hj]
    have h0 : (List.replicate qc.2.2 0).getD j 0 = 0 := by simp [List.getD_eq_getElem?_getD, hj]
    simp only [fvl, h0, rfv, Option.getD_some]
  have hzz := hz
  simp only [zok, Bool.and_eq_true, decide_eq_true_eq] at hz
  have hx : Ext Z.length ad (Z.length + 1) (adN ad Z.length q) := adN_ext hz.2
  have hcl : (.inr (ci, flds ad (fun _ => 0) (fun _ => 0) ci (List.replicate qc.2.2 0)) : va_E) = cel gA ad (fun _ => 0) (fun _ => 0) (0, ci, List.replicate qc.2.2 0) := rfl
  rw [hcl, ← wsO_new (q := q) hzz (by simp)] at hP1 hD1
  have hvv := vld_lv (lv := lv) (st := st) hx (Or.inl hv)
  have hs : adN ad Z.length q shx = ad shx := hx.2.1 _ (Or.inr (Nat.le_refl _))
  have kk := k p l e s m args below meth c Q A D gA H1 locs ls (adN ad Z.length q) (by rw [hs]; exact C) ⟨hP1, hD1, hS1⟩ (by rw [hvv.1]; exact hl) (fun cs2 pc2 lv2 st2 h2 H2 l2 ls2 ad2 he2 hx2 hr2 hl2 => hE cs2 pc2 lv2 st2 h2 H2 l2 ls2 ad2 he2 (hx.tr (by simpa using hx2)) hr2 hl2)
  rw [List.map_cons, hvv.2] at kk
  have e1 : cv (adN ad Z.length q) (.ref Z.length) = .ref q := by show Value.ref (adN ad Z.length q Z.length) = _; simp [adN]
  rw [e1] at kk
  exact kk
theorem G.newq {idx : Nat} {n : Int32} (N : Nat) (i : Nat) (hi : M.2.2.2.2[i]? = some (pc, .anewarray idx, 3)) (hw1 : Cond.classLink M.1.cls idx RX2 ∈ wl) (hn : ¬ n < 0) (hN : n.toNatClampNeg = N) (hb : N * 4 ≤ 536870912)
    (hz : zok Z = true) (hv : vld Z.length lv st = true) (hc1 : cs.1 + 1 ≤ R.cells) (hc2 : cs.2 + N ≤ R.slots)
    (k : G M R E (cs.1 + 1, cs.2 + N) (pc + 3) lv (.ref Z.length :: st) (Z ++ [(6, N, List.replicate N 0)], uf I Z.length (fun _ => 0), ufj J Z.length (fun _ => 0))) : G M R E cs pc lv (.int n :: st) (Z, I, J) := by
  intro p l e s m args below meth c Q A D gA H locs ls ad C hr hl hE
  refine va_newq C.x C.b C.own (C.ts _ hw1) C.sh.2.2.2.2 C.K hr.1 hr.2.1 hr.2.2 C.hA hn hN hb hc1 hc2 (C.ok.at hi) fun q cA H1 hK1 hP1 hD1 hS1 => ?_
  have hzz := hz
  simp only [zok, Bool.and_eq_true, decide_eq_true_eq] at hz
  have hx : Ext Z.length ad (Z.length + 1) (adN ad Z.length q) := adN_ext hz.2
  have h1 : va_RA s cA (.object RX2) := (hK1.2 (tysO gA).length (cA, _) (by simp)).2
  have h2 : va_RA s (gA 6) (.object RX2) := (C.K.2 5 _ rfl).2
  cases RA_inj h1 h2
  have hcl : (.inl (gA 6, N, .inr (.inr (.inr (.inr (fun _ => none))))) : va_E) = cel gA ad (fun _ => 0) (fun _ => 0) (6, N, List.replicate N 0) := by
    have hf : (fun i => rfo ad ((List.replicate N 0).getD i 0)) = (fun _ => none) := by
      funext j
      have h0 : (List.replicate N 0).getD j 0 = 0 := by
        rw [List.getD_eq_getElem?_getD, List.getElem?_replicate]
        by_cases hj : j < N <;> simp [hj]
      rw [h0]
      rfl
    show _ = (.inl (gA 6, N, .inr (.inr (.inr (.inr (fun i => rfo ad ((List.replicate N 0).getD i 0)))))) : va_E)
    rw [hf]
  rw [hcl, ← wsO_new (q := q) hzz (by simp)] at hP1 hD1
  have hvv := vld_lv (lv := lv) (st := st) hx (Or.inl hv)
  have hs : adN ad Z.length q shx = ad shx := hx.2.1 _ (Or.inr (Nat.le_refl _))
  have kk := k p l e s m args below meth c Q A D gA H1 locs ls (adN ad Z.length q) (by rw [hs]; exact C) ⟨hP1, hD1, hS1⟩ (by rw [hvv.1]; exact hl) (fun cs2 pc2 lv2 st2 h2 H2 l2 ls2 ad2 he2 hx2 hr2 hl2 => hE cs2 pc2 lv2 st2 h2 H2 l2 ls2 ad2 he2 (hx.tr (by simpa using hx2)) hr2 hl2)
  rw [List.map_cons, hvv.2] at kk
  have e1 : cv (adN ad Z.length q) (.ref Z.length) = .ref q := by show Value.ref (adN ad Z.length q Z.length) = _; simp [adN]
  rw [e1] at kk
  exact kk
theorem G.copyi {idx o0 o1 n0 n1 : Nat} {r0 r1 : List Nat} {sp dp n : Int32} (i : Nat) (hi : M.2.2.2.2[i]? = some (pc, .invokestatic idx, 3)) (hw1 : Cond.methodLink M.1.cls idx arraycopyName ∈ wl) (hw2 : Cond.native arraycopyName ∈ wl) (hw3 : Cond.static arraycopyName ∈ wl) (hw4 : Cond.initialized "java/lang/System" ∈ wl)
    (hz0 : Z[o0]? = some (1, n0, r0)) (hz1 : Z[o1]? = some (1, n1, r1)) (h1 : ¬ sp < 0) (h2 : ¬ dp < 0) (h3 : ¬ n < 0) (h4 : sp.toNatClampNeg + n.toNatClampNeg ≤ n0) (h5 : dp.toNatClampNeg + n.toNatClampNeg ≤ n1) (hf : 1 ≤ R.frames) (hlo : 8 + (nativeFrameWords "java/lang/System" "arraycopy" 5 + 11) ≤ R.locals) (hs : (st.map fun v => v.category).sum ≤ 8)
    (k : G M R E cs (pc + 3) lv st (Z, uf I o1 (va_cpy (I o0) (I o1) sp.toNatClampNeg dp.toNatClampNeg n.toNatClampNeg), J)) : G M R E cs pc lv (.int n :: .int dp :: .ref o1 :: .int sp :: .ref o0 :: st) (Z, I, J) := by
  intro p l e s m args below meth c Q A D gA H locs ls ad C hr hl hE
  refine va_copyi C.x C.b (C.ml.trans hl.1.symm) C.own (C.ts _ hw1) (C.ts _ hw2) (C.ts _ hw3) (C.ts _ hw4) C.K hr.1 hr.2.1 hr.2.2 o0 o1 0 0 (wsO_get (gA := gA) (ad := ad) (h := (Z, I, J)) hz0) (wsO_get (gA := gA) (ad := ad) (h := (Z, I, J)) hz1) rfl rfl rfl h1 h2 h3 h4 h5 (fun _ _ => rfl) hf (by
    have := cat_sum ad st
    exact Nat.le_trans (Nat.add_le_add_right (by rw [this]; exact hs) _) hlo) (C.ok.at hi) fun H1 locs1 g1 g2 g3 => ?_
  have hw := wsO_setF (gA := gA) (ad := ad) (I := I) (J := J) (f := va_cpy (I o0) (I o1) sp.toNatClampNeg dp.toNatClampNeg n.toNatClampNeg) hz1
  exact k p l e s m args below meth c Q A D gA H1 locs1 ls ad C ⟨by rw [← hw]; exact g1, by rw [← hw]; exact g2, g3⟩ hl hE
theorem G.copyl {idx o0 o1 n0 n1 : Nat} {r0 r1 : List Nat} {sp dp n : Int32} (i : Nat) (hi : M.2.2.2.2[i]? = some (pc, .invokestatic idx, 3)) (hw1 : Cond.methodLink M.1.cls idx arraycopyName ∈ wl) (hw2 : Cond.native arraycopyName ∈ wl) (hw3 : Cond.static arraycopyName ∈ wl) (hw4 : Cond.initialized "java/lang/System" ∈ wl)
    (hz0 : Z[o0]? = some (2, n0, r0)) (hz1 : Z[o1]? = some (2, n1, r1)) (h1 : ¬ sp < 0) (h2 : ¬ dp < 0) (h3 : ¬ n < 0) (h4 : sp.toNatClampNeg + n.toNatClampNeg ≤ n0) (h5 : dp.toNatClampNeg + n.toNatClampNeg ≤ n1) (hf : 1 ≤ R.frames) (hlo : 8 + (nativeFrameWords "java/lang/System" "arraycopy" 5 + 11) ≤ R.locals) (hs : (st.map fun v => v.category).sum ≤ 8)
    (k : G M R E cs (pc + 3) lv st (Z, I, ufj J o1 (va_cpy (J o0) (J o1) sp.toNatClampNeg dp.toNatClampNeg n.toNatClampNeg))) : G M R E cs pc lv (.int n :: .int dp :: .ref o1 :: .int sp :: .ref o0 :: st) (Z, I, J) := by
  intro p l e s m args below meth c Q A D gA H locs ls ad C hr hl hE
  refine va_copyl C.x C.b (C.ml.trans hl.1.symm) C.own (C.ts _ hw1) (C.ts _ hw2) (C.ts _ hw3) (C.ts _ hw4) C.K hr.1 hr.2.1 hr.2.2 o0 o1 1 1 (wsO_get (gA := gA) (ad := ad) (h := (Z, I, J)) hz0) (wsO_get (gA := gA) (ad := ad) (h := (Z, I, J)) hz1) rfl rfl rfl h1 h2 h3 h4 h5 (fun _ _ => rfl) hf (by
    have := cat_sum ad st
    exact Nat.le_trans (Nat.add_le_add_right (by rw [this]; exact hs) _) hlo) (C.ok.at hi) fun H1 locs1 g1 g2 g3 => ?_
  have hw := wsO_setFj (gA := gA) (ad := ad) (I := I) (J := J) (f := va_cpy (J o0) (J o1) sp.toNatClampNeg dp.toNatClampNeg n.toNatClampNeg) hz1
  exact k p l e s m args below meth c Q A D gA H1 locs1 ls ad C ⟨by rw [← hw]; exact g1, by rw [← hw]; exact g2, g3⟩ hl hE
end GN

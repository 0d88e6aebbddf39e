/-! STEPS OF G: fields and arrays -/
section GH
variable {ad : Nat → Nat} {Ik : Nat → Int32} {Jk : Nat → Int64} {ci j : Nat} {rs : List Nat}
theorem flds_get (hj : j < cnf ci) : (flds ad Ik Jk ci rs)[j]? = some (fvl ad Ik Jk ci rs j) := by simp [flds, hj]
theorem flds_len : (flds ad Ik Jk ci rs).length = cnf ci := by simp [flds]
theorem fvl_0 (ht : fk (ctyp ci j) = 0) : fvl ad Ik Jk ci rs j = .int (Ik j) := by simp [fvl, ht]
theorem fvl_1 (ht : fk (ctyp ci j) = 1) : fvl ad Ik Jk ci rs j = .long (Jk j) := by simp [fvl, ht]
theorem fvl_2 (ht : fk (ctyp ci j) = 2) : fvl ad Ik Jk ci rs j = rfv ad (rs.getD j 0) := by simp [fvl, ht]
theorem flds_ext {vs : List Value} (hl : vs.length = cnf ci) (hv : ∀ n, n < cnf ci → vs[n]? = some (fvl ad Ik Jk ci rs n)) : vs = flds ad Ik Jk ci rs := by
  apply List.ext_getElem?
  intro n
  by_cases hn : n < cnf ci
  · rw [hv n hn, flds_get hn]
  · rw [List.getElem?_eq_none (by omega), List.getElem?_eq_none (by rw [flds_len]; omega)]
theorem flds_setI {v : Int32} (hj : j < cnf ci) (ht : fk (ctyp ci j) = 0) : (flds ad Ik Jk ci rs).set j (.int v) = flds ad (upd Ik j v) Jk ci rs := by
  refine flds_ext (by simp [flds]) fun n hn => ?_
  by_cases h : n = j
  · subst h
    rw [List.getElem?_set_self (by rw [flds_len]; exact hn), fvl_0 ht]
    simp [upd]
  · rw [List.getElem?_set_ne (Ne.symm h), flds_get hn]
    simp [fvl, upd, h]
theorem flds_setJ {v : Int64} (hj : j < cnf ci) (ht : fk (ctyp ci j) = 1) : (flds ad Ik Jk ci rs).set j (.long v) = flds ad Ik (vp_updL Jk j v) ci rs := by
  refine flds_ext (by simp [flds]) fun n hn => ?_
  by_cases h : n = j
  · subst h
    rw [List.getElem?_set_self (by rw [flds_len]; exact hn), fvl_1 ht]
    simp [vp_updL]
  · rw [List.getElem?_set_ne (Ne.symm h), flds_get hn]
    simp [fvl, vp_updL, h]
theorem flds_setR {r : Nat} (hj : j < cnf ci) (ht : fk (ctyp ci j) = 2) (hl : j < rs.length) : (flds ad Ik Jk ci rs).set j (rfv ad r) = flds ad Ik Jk ci (rs.set j r) := by
  refine flds_ext (by simp [flds]) fun n hn => ?_
  by_cases h : n = j
  · subst h
    rw [List.getElem?_set_self (by rw [flds_len]; exact hn), fvl_2 ht]
    simp [List.getD_eq_getElem?_getD, hl]
  · rw [List.getElem?_set_ne (Ne.symm h), flds_get hn]
    simp [fvl, List.getD_eq_getElem?_getD, List.getElem?_set_ne (Ne.symm h)]
end GH
def cokb (q : vw_C) : Bool := (u_ws q.1 q.2.1 q.2.2).all (fun w => decide (w ∈ lw_tbl) && qw w)
theorem cokb_wl {q : vw_C} (h : cokb q = true) : ∀ w ∈ u_ws q.1 q.2.1 q.2.2, w ∈ wl := by
  intro w hw
  have h1 := List.all_eq_true.mp h w hw
  simp only [Bool.and_eq_true, decide_eq_true_eq] at h1
  exact List.mem_filter.mpr h1
def COk (ci : Nat) (q : vw_C) : Prop := (∀ w ∈ u_ws q.1 q.2.1 q.2.2, w ∈ wl) ∧ (∀ k, k < q.2.2 → parseFieldDescriptor (q.2.1 k).2.2.1 = some (ctyp ci k)) ∧ (∀ a, a < q.2.2 → ∀ b, b < q.2.2 → a ≠ b → (q.2.1 a).2.1 ≠ (q.2.1 b).2.1)
theorem ck0 : COk 0 (RX0, TX0, 11) := ⟨cokb_wl (by decide +kernel), tyX0_ok, nmX0⟩
theorem ck1 : COk 1 (RX1, TX1, 20) := ⟨cokb_wl (by decide +kernel), tyX1_ok, nmX1⟩
theorem ck2 : COk 2 (RX2, TX2, 6) := ⟨cokb_wl (by decide +kernel), tyX2_ok, nmX2⟩
theorem ck3 : COk 3 (RX3, TX3, 7) := ⟨cokb_wl (by decide +kernel), tyX3_ok, nmX3⟩
theorem ck4 : COk 4 (RX4, TX4, 17) := ⟨cokb_wl (by decide +kernel), tyX4_ok, nmX4⟩
theorem ck5 : COk 5 (RX5, TX5, 12) := ⟨cokb_wl (by decide +kernel), tyX5_ok, nmX5⟩
theorem ck6 : COk 6 (RX6, TX6, 11) := ⟨cokb_wl (by decide +kernel), tyX6_ok, nmX6⟩
theorem ck7 : COk 7 (RX7, TX7, 9) := ⟨cokb_wl (by decide +kernel), tyX7_ok, nmX7⟩
theorem ck8 : COk 8 (RX8, TX8, 9) := ⟨cokb_wl (by decide +kernel), tyX8_ok, nmX8⟩
theorem ck9 : COk 9 (RX9, TX9, 2) := ⟨cokb_wl (by decide +kernel), tyX9_ok, nmX9⟩
theorem ck10 : COk 10 (RX10, TX10, 2) := ⟨cokb_wl (by decide +kernel), tyX10_ok, nmX10⟩
theorem ck11 : COk 11 (RX11, TX11, 11) := ⟨cokb_wl (by decide +kernel), tyX11_ok, nmX11⟩
theorem ck12 : COk 12 (RX12, TX12, 75) := ⟨cokb_wl (by decide +kernel), tyX12_ok, nmX12⟩
theorem cok {ci : Nat} {q : vw_C} (h : cl_all[ci]? = some q) : COk ci q := by
  match ci, h with
  | 0, h => cases h; exact ck0
  | 1, h => cases h; exact ck1
  | 2, h => cases h; exact ck2
  | 3, h => cases h; exact ck3
  | 4, h => cases h; exact ck4
  | 5, h => cases h; exact ck5
  | 6, h => cases h; exact ck6
  | 7, h => cases h; exact ck7
  | 8, h => cases h; exact ck8
  | 9, h => cases h; exact ck9
  | 10, h => cases h; exact ck10
  | 11, h => cases h; exact ck11
  | 12, h => cases h; exact ck12
  | n + 13, h => simp at h
theorem cnf_of {ci : Nat} {q : vw_C} (h : cl_all[ci]? = some q) : cnf ci = q.2.2 := by simp only [cnf, h]
/-- the link idx of the methods of 'own' is field j of the objects of kind ci -/
def FOk (own : String) (idx ci j : Nat) : Prop := ∃ q : vw_C, cl_all[ci]? = some q ∧ j < q.2.2 ∧ Cond.fieldLink own idx q.1 (q.2.1 j).2.1 (q.2.1 j).2.2.1 ∈ wl ∧ (q.2.1 j).1 = q.1
section GF
variable {M : MD} {R : Room} {E : Ex} {cs : Nat × Nat} {pc : Nat} {lv : Lv} {st : List Value} {h : Hp} {Z : List Kd} {I : Nat → Nat → Int32} {J : Nat → Nat → Int64}
theorem G.getV {idx ci j o : Nat} {rs : List Nat} {v : Value} (i : Nat) (hi : M.2.2.2.2[i]? = some (pc, .getfield idx, 3)) (hf : FOk M.1.cls idx ci j) (hz : h.1[o]? = some (0, ci, rs)) (hv : ∀ ad : Nat → Nat, fvl ad (h.2.1 o) (h.2.2 o) ci rs j = cv ad v)
    (k : G M R E cs (pc + 3) lv (v :: st) h) : G M R E cs pc lv (.ref o :: st) h := by
  refine G.go (fun p l e s m args below meth c Q A D gA H locs ls ad C hr hl kk => ?_) k
  obtain ⟨q, hq, hj, hl1, hl2⟩ := hf
  have hg : (flds ad (h.2.1 o) (h.2.2 o) ci rs)[j]? = some (cv ad v) := by rw [flds_get (by rw [cnf_of hq]; exact hj), hv ad]
  exact va_get C.x C.b C.ts (cok hq).1 C.own C.K hr.1 o (wsO_get hz) hq j hj (C.ts _ hl1) (fun x hx => by rw [← hl2]; exact hx) hg (C.ok.at hi) kk
theorem G.getI {idx ci j o : Nat} {rs : List Nat} (i : Nat) (hi : M.2.2.2.2[i]? = some (pc, .getfield idx, 3)) (hf : FOk M.1.cls idx ci j) (hz : Z[o]? = some (0, ci, rs)) (ht : fk (ctyp ci j) = 0)
    (k : G M R E cs (pc + 3) lv (.int (I o j) :: st) (Z, I, J)) : G M R E cs pc lv (.ref o :: st) (Z, I, J) := G.getV i hi hf hz (fun ad => fvl_0 ht) k
theorem G.getJ {idx ci j o : Nat} {rs : List Nat} (i : Nat) (hi : M.2.2.2.2[i]? = some (pc, .getfield idx, 3)) (hf : FOk M.1.cls idx ci j) (hz : Z[o]? = some (0, ci, rs)) (ht : fk (ctyp ci j) = 1)
    (k : G M R E cs (pc + 3) lv (.long (J o j) :: st) (Z, I, J)) : G M R E cs pc lv (.ref o :: st) (Z, I, J) := G.getV i hi hf hz (fun ad => fvl_1 ht) k
theorem G.getR {idx ci j o r : Nat} {rs : List Nat} (i : Nat) (hi : M.2.2.2.2[i]? = some (pc, .getfield idx, 3)) (hf : FOk M.1.cls idx ci j) (hz : Z[o]? = some (0, ci, rs)) (ht : fk (ctyp ci j) = 2) (hr : rs.getD j 0 = r + 1)
    (k : G M R E cs (pc + 3) lv (.ref r :: st) (Z, I, J)) : G M R E cs pc lv (.ref o :: st) (Z, I, J) := G.getV i hi hf hz (fun ad => by rw [fvl_2 ht, hr]; rfl) k
/-- a store into a field: final ones in a constructor of the same kind alone -/
theorem G.putV {idx ci j o : Nat} {rs : List Nat} {v : Value} {h' : Hp} (i : Nat) (hi : M.2.2.2.2[i]? = some (pc, .putfield idx, 3)) (hf : FOk M.1.cls idx ci j) (hz : h.1[o]? = some (0, ci, rs)) (hn : ∀ ad : Nat → Nat, narrow (ctyp ci j) (cv ad v) = cv ad v) (hfit : ∀ ad : Nat → Nat, fits (ctyp ci j) (cv ad v) = true)
    (hfin : ∀ q : vw_C, cl_all[ci]? = some q → (q.2.1 j).2.2.2 = false ∨ ((q.2.1 j).2.2.2 = true ∧ M.1.name = "<init>" ∧ (q.2.1 j).1 = M.1.cls))
    (hlen : h'.1.length = h.1.length) (hw : ∀ (gA : Nat → ClassId) (ad : Nat → Nat), (wsO gA ad h).set o (ad o, .inr (ci, (flds ad (h.2.1 o) (h.2.2 o) ci rs).set j (cv ad v))) = wsO gA ad h')
    (k : G M R E cs (pc + 3) lv st h') : G M R E cs pc lv (v :: .ref o :: st) h := by
  intro p l e s m args below meth c Q A D gA H locs ls ad C hr hl hE
  obtain ⟨q, hq, hj, hl1, hl2⟩ := hf
  have hk := cok hq
  have kk : ∀ (H1 : Heap) (locs1 : List Loc), va_P D cl_all ((wsO gA ad h).set o (ad o, .inr (ci, (flds ad (h.2.1 o) (h.2.2 o) ci rs).set j (cv ad v)))) H1 → va_D A ((wsO gA ad h).set o (ad o, .inr (ci, (flds ad (h.2.1 o) (h.2.2 o) ci rs).set j (cv ad v)))) → va_S A s.heap H1 locs1 → W p l e R s m args below meth c H1 locs1 cs.1 cs.2 Q (F0 m (pc + 3) ls (st.map (cv ad))) := by
    intro H1 locs1 g1 g2 g3
    rw [hw] at g1 g2
    exact k p l e s m args below meth c Q A D gA H1 locs1 ls ad C ⟨g1, g2, g3⟩ hl (by rw [hlen]; exact hE)
  rcases hfin q hq with h0 | ⟨h0, h1, h2⟩
  · exact va_put C.x C.b C.ts hk.1 (ctyp ci) hk.2.1 hk.2.2 C.own C.K hr.1 hr.2.1 hr.2.2 o (wsO_get hz) hq j hj (C.ts _ hl1) (fun x hx => by rw [← hl2]; exact hx) h0 (hk.2.1 j hj) (hn ad) (hfit ad) (by rw [flds_len, cnf_of hq]; exact hj) (C.ok.at hi) kk
  · exact va_putF C.x C.b C.ts hk.1 (ctyp ci) hk.2.1 hk.2.2 C.own C.K hr.1 hr.2.1 hr.2.2 o (wsO_get hz) hq j hj (C.ts _ hl1) (fun x hx => by rw [← hl2]; exact hx) h0 (C.nm.trans h1) h2 (hk.2.1 j hj) (hn ad) (hfit ad) (by rw [flds_len, cnf_of hq]; exact hj) (C.ok.at hi) kk
end GF

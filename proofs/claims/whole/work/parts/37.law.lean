/-! GL: the law's own judgement: G, with the script beside the world -/
def scx : Nat := 1000001
def GL (L : Nat) (xs : Nat → Int32) (E : Ex) (cs : Nat × Nat) (pc : Nat) (lv : Lv) (st : List Value) (h : Hp) : Prop :=
  ∀ (p : Program) (l : Launch) (e : Env) (s : State) (m : MethodId) (args : Array Value) (below : List Frame) (meth : Method) (c : Code) (Q : State → Prop) (D : va_G) (gA : Nat → ClassId) (H : Heap) (locs : List Loc) (ls : Array Slot) (ad : Nat → Nat),
    Cx mL_law p l s m args meth c (fun q => s.heap.size ≤ q) D gA (ad shx) → va_X (ad scx) L xs s s.heap → ad scx < s.heap.size → Rp (fun q => s.heap.size ≤ q) D gA s H locs ad h → lv_has ls 8 (lvm ad lv) →
    (∀ (cs' : Nat × Nat) (pc' : Nat) (lv' : Lv) (st' : List Value) (h' : Hp) (H' : Heap) (locs' : List Loc) (ls' : Array Slot) (ad' : Nat → Nat), E cs' pc' lv' st' h' → Rp (fun q => s.heap.size ≤ q) D gA s H' locs' ad' h' →
      W p l e room_1 s m args below meth c H' locs' cs'.1 cs'.2 Q (F0 m pc' ls' (st'.map (cv ad')))) →
    W p l e room_1 s m args below meth c H locs cs.1 cs.2 Q (F0 m pc ls (st.map (cv ad)))
section GLS
variable {L : Nat} {xs : Nat → Int32} {E : Ex} {cs : Nat × Nat} {pc : Nat} {lv : Lv} {st : List Value} {h : Hp}
theorem GL.exit (he : E cs pc lv st h) : GL L xs E cs pc lv st h := by
  intro p l e s m args below meth c Q D gA H locs ls ad C hX hb hr hl hE
  exact hE cs pc lv st h H locs ls ad he hr
theorem GL.tr {E1 : Ex} (g : G mL_law room_1 E1 cs pc lv st h) (k : ∀ cs' pc' lv' st' h', E1 cs' pc' lv' st' h' → GL L xs E cs' pc' lv' st' h') : GL L xs E cs pc lv st h := by
  intro p l e s m args below meth c Q D gA H locs ls ad C hX hb hr hl hE
  refine g p l e s m args below meth c Q _ D gA H locs ls ad C hr hl ?_
  intro cs' pc' lv' st' h' H' locs' ls' ad' he hx hr' hl'
  have hs : ad' shx = ad shx := hx.2.1 _ (Or.inr (Nat.le_refl _))
  have hsc : ad' scx = ad scx := hx.2.1 _ (Or.inr (by decide))
  exact k cs' pc' lv' st' h' he p l e s m args below meth c Q D gA H' locs' ls' ad' (by rw [hs]; exact C) (by rw [hsc]; exact hX) (by rw [hsc]; exact hb) hr' hl' hE
theorem GL.g {cs' : Nat × Nat} {pc' : Nat} {lv' : Lv} {st' : List Value} {h' : Hp} (g : ∀ E' : Ex, G mL_law room_1 E' cs' pc' lv' st' h' → G mL_law room_1 E' cs pc lv st h) (k : GL L xs E cs' pc' lv' st' h') : GL L xs E cs pc lv st h := by
  refine GL.tr (g (fun a1 a2 a3 a4 a5 => a1 = cs' ∧ a2 = pc' ∧ a3 = lv' ∧ a4 = st' ∧ a5 = h') (G.exit ⟨rfl, rfl, rfl, rfl, rfl⟩)) ?_
  rintro _ _ _ _ _ ⟨rfl, rfl, rfl, rfl, rfl⟩
  exact k
theorem GL.sld {x v : Int32} (i : Nat) (hi : mL_law.2.2.2.2[i]? = some (pc, .iaload, 1)) (hin : vp_in x L) (hv : xs x.toNatClampNeg = v) (k : GL L xs E cs (pc + 1) lv (.int v :: st) h) : GL L xs E cs pc lv (.int x :: .ref scx :: st) h := by
  intro p l e s m args below meth c Q D gA H locs ls ad C hX hb hr hl hE
  subst hv
  exact va_sld C.x C.b hX hb (Nat.not_le.mpr hb) hr.2.2 hin (C.ok.at hi) (k p l e s m args below meth c Q D gA H locs ls ad C hX hb hr hl hE)
theorem GL.slen (i : Nat) (hi : mL_law.2.2.2.2[i]? = some (pc, .arraylength, 1)) (k : GL L xs E cs (pc + 1) lv (.int (Int32.ofNat L) :: st) h) : GL L xs E cs pc lv (.ref scx :: st) h := by
  intro p l e s m args below meth c Q D gA H locs ls ad C hX hb hr hl hE
  exact va_slen C.x C.b hX hb (Nat.not_le.mpr hb) hr.2.2 (C.ok.at hi) (k p l e s m args below meth c Q D gA H locs ls ad C hX hb hr hl hE)
theorem GL.cV {τ : Type} {fn : Fin' τ} {fc : Option τ} {idx n d mc ms b ci : Nat} {M' : MD} {av rs : List Value} {rr : List Nat} (r : τ) (hF : fc = some r) (i : Nat) (hi : mL_law.2.2.2.2[i]? = some (pc, .invokevirtual idx, 3)) (ho : VOk mL_law.1.cls idx M' n) (hn : av.length = n) (hrs : av.reverse = rs) {qc : vw_C} (hq : cl_all[ci]? = some qc) (hqc : qc.1 = M'.1.cls) (hz : h.1[b]? = some (0, ci, rr)) (hR : rOk room_1 cs M' d mc ms st) (hM : CM M' d mc ms (.ref b :: av) h fn fc) (hv : vld h.1.length lv st = true ∨ (fn r).2.1.length = h.1.length)
    (k : GL L xs E (cs.1 + mc, cs.2 + ms) (pc + 3) lv ((fn r).1.toList ++ st) (fn r).2) : GL L xs E cs pc lv (rs ++ .ref b :: st) h := by
  refine GL.tr (G.callV (E := fun a1 a2 a3 a4 a5 => a1 = (cs.1 + mc, cs.2 + ms) ∧ a2 = pc + 3 ∧ a3 = lv ∧ a4 = (fn r).1.toList ++ st ∧ a5 = (fn r).2) i hi ho hn hrs hq hqc hz hR (hM r hF) (hv.imp id (fun z v h' e => ?_)) (fun v h' e => ?_)) ?_
  · have e2 : h' = (fn r).2 := congrArg Prod.snd e
    rw [e2]; exact z
  · have e1 : v = (fn r).1 := congrArg Prod.fst e
    have e2 : h' = (fn r).2 := congrArg Prod.snd e
    rw [e1, e2]
    exact G.exit ⟨rfl, rfl, rfl, rfl, rfl⟩
  · rintro _ _ _ _ _ ⟨rfl, rfl, rfl, rfl, rfl⟩
    exact k
theorem GL.cI {τ : Type} {fn : Fin' τ} {fc : Option τ} {idx n d mc ms b : Nat} {M' : MD} {av rs : List Value} (r : τ) (hF : fc = some r) (i : Nat) (hi : mL_law.2.2.2.2[i]? = some (pc, .invokespecial idx, 3)) (ho : IOk mL_law.1.cls idx M' n) (hn : av.length = n) (hrs : av.reverse = rs) (hR : rOk room_1 cs M' d mc ms st) (hM : CM M' d mc ms (.ref b :: av) h fn fc) (hv : vld h.1.length lv st = true)
    (k : GL L xs E (cs.1 + mc, cs.2 + ms) (pc + 3) lv ((fn r).1.toList ++ st) (fn r).2) : GL L xs E cs pc lv (rs ++ .ref b :: st) h := by
  refine GL.tr (G.callI (E := fun a1 a2 a3 a4 a5 => a1 = (cs.1 + mc, cs.2 + ms) ∧ a2 = pc + 3 ∧ a3 = lv ∧ a4 = (fn r).1.toList ++ st ∧ a5 = (fn r).2) i hi ho hn hrs hR (hM r hF) (Or.inl hv) (fun v h' e => ?_)) ?_
  · have e1 : v = (fn r).1 := congrArg Prod.fst e
    have e2 : h' = (fn r).2 := congrArg Prod.snd e
    rw [e1, e2]
    exact G.exit ⟨rfl, rfl, rfl, rfl, rfl⟩
  · rintro _ _ _ _ _ ⟨rfl, rfl, rfl, rfl, rfl⟩
    exact k
/-- a call of a helper -/
theorem GL.cH {idx n d mc ms : Nat} {M' : MD} {hh : List (Nat × Nat × Nat × Nat)} {av rs : List Value} {Q : Option Value → Hp → Prop} (i : Nat) (hi : mL_law.2.2.2.2[i]? = some (pc, .invokestatic idx, 3)) (ho : GoodIn wl (va_wsS RL idx M'.1 [cdh M' hh]) ∧ dOk M' n) (hn : av.length = n) (hrs : av.reverse = rs) (hR : rOk room_1 cs M' d mc ms st) (hM : GMH M' hh d mc ms av h Q) (hv : ∀ v h', Q v h' → h'.1.length = h.1.length)
    (k : ∀ v h', Q v h' → GL L xs E (cs.1 + mc, cs.2 + ms) (pc + 3) lv (v.toList ++ st) h') : GL L xs E cs pc lv (rs ++ st) h := by
  have key : G mL_law room_1 (fun a1 a2 a3 a4 a5 => ∃ v h', Q v h' ∧ a1 = (cs.1 + mc, cs.2 + ms) ∧ a2 = pc + 3 ∧ a3 = lv ∧ a4 = v.toList ++ st ∧ a5 = h') cs pc lv (rs ++ st) h := by
    subst hrs
    intro p l e s m args below meth c Q' A D gA H locs ls ad C hr hl hE
    have hrun := vx_runSW (p := p) (l := l) (e := e) (R := room_1) (s := s) (m := m) (args := args) (below := below) (meth := meth) (c := c) (H := H) (locs := locs) (cells := cs.1) (slots := cs.2) (cc := mL_law.2.1) (nL := mL_law.2.2.1) (Ts := wl) (own := RL) (As := av.map (cv ad)) (rest := st.map (cv ad)) (g := F0 m pc ls ((av.reverse ++ st).map (cv ad))) (n := n) (index := idx)
      ⟨C.x, C.b, C.ml, C.own, C.ts⟩ (hM l D gA ad H.size C.tr) (vx_cwSW (ws' := []) n C.ts ho.1 rfl rfl rfl ho.2 hR.1)
      ⟨Pm.blind, fun U hU hW => ⟨rfl, Pm.call C hr hU hW⟩⟩
      rfl (by rw [List.length_map]; exact hn) hl.1 (by show (av.reverse ++ st).map (cv ad) = _; simp) (lv_room (by rw [cat_sum]; exact hR.2.2)) (C.ok.at hi) hR.2.1
    exact G.ran C hr hl hE (Or.inr hv) hrun (fun v h' hq => G.exit ⟨v, h', hq, rfl, rfl, rfl, rfl, rfl⟩)
  refine GL.tr key ?_
  intro a1 a2 a3 a4 a5 he
  obtain ⟨v, h', hq, rfl, rfl, rfl, rfl, e⟩ := he
  rw [e]
  exact k v h' hq
theorem GL.same {r : Int32} {off : Int} (tgt : Nat) (i : Nat) (hi : mL_law.2.2.2.2[i]? = some (pc, .if_icmp .eq off, 3)) (ht : (pc : Int) + off = (tgt : Int)) (k : GL L xs E cs tgt lv st h) : GL L xs E cs pc lv (.int r :: .int r :: st) h :=
  GL.g (fun E' k => G.icmp_eq tgt i hi ht (fun _ => k) (fun q => absurd rfl q)) k
theorem lg_same (r : Int64) : lg_cmp r r = 0 := by simp [lg_cmp]
theorem GL.lsame {r : Int64} {off : Int} (tgt : Nat) (i j : Nat) (hj : mL_law.2.2.2.2[j]? = some (pc, .lcmp, 1)) (hi : mL_law.2.2.2.2[i]? = some (pc + 1, .ifCond .eq off, 3)) (ht : ((pc + 1 : Nat) : Int) + off = (tgt : Int)) (k : GL L xs E cs tgt lv st h) : GL L xs E cs pc lv (.long r :: .long r :: st) h :=
  GL.g (fun E' k => G.lcmp j hj (by rw [lg_same]; exact G.if_eq tgt i hi ht (fun _ => k) (fun q => absurd rfl q))) k
end GLS
abbrev lgA (a b : Int32) : Int64 := (olshl (Int32.toInt64 a) 32) ||| ((Int32.toInt64 b) &&& (4294967295 : Int64))
abbrev lvL (x : Int32) : Lv := [(0, .ref scx), (1, .ref 0), (2, .ref 81), (3, .ref 128), (4, .int x)]

/-! CONTRACTS OF METHODS over the whole world, calls, ends -/
def rmd (d mc ms : Nat) : Room := { frames := d, cells := mc, slots := ms, locals := 64 * d }
abbrev cdw (M : MD) : Cond := Cond.code M.1 M.2.1 M.2.2.1 M.2.2.2.1
def Pm (D : va_G) (gA : Nat → ClassId) (ad : Nat → Nat) (sz : Nat) (h : Hp) (U : State) : Prop :=
  U.heap.size = sz ∧ (∀ w ∈ wl, w.before #[] U = true) ∧ va_K D cl_all (tysO gA) U ∧ va_P D cl_all (wsO gA ad h) U.heap ∧ va_D (fun _ => True) (wsO gA ad h) ∧ Shs (va_A (wsO gA ad h) sz) (ad shx) U
def Qm (D : va_G) (gA : Nat → ClassId) (ad : Nat → Nat) (sz : Nat) (h : Hp) (Q : Option Value → Hp → Prop) : Array Value → State → Outcome → State → Prop := fun _ st oc t =>
  (∃ (r : Option Value) (h' : Hp) (ad' : Nat → Nat), oc = .returned (r.map (cv ad')) ∧ Q r h' ∧ Ext h.1.length ad h'.1.length ad' ∧ va_P D cl_all (wsO gA ad' h') t.heap ∧ va_D (va_A (wsO gA ad h) sz) (wsO gA ad' h')) ∧ va_F (va_A (wsO gA ad h) sz) st t
def GM (M : MD) (d mc ms : Nat) (av : List Value) (h : Hp) (Q : Option Value → Hp → Prop) : Prop :=
  ∀ (l : Launch) (D : va_G) (gA : Nat → ClassId) (ad : Nat → Nat) (sz : Nat), l.stackTraces = false → Met l M.1 [cdw M] (rmd d mc ms) (va_Pc (av.map (cv ad)) (Pm D gA ad sz h)) (Qm D gA ad sz h Q) mc ms (va_A (wsO gA ad h) sz)
theorem Shs.to {A B : Nat → Prop} {t : Nat} {u U : State} (h : Shs A t u) (hW : u.WarmedH U.vm) (hk : ∀ a : Nat, a < u.heap.size → ¬ A a → U.heap[a]? = u.heap[a]?) (hAB : ∀ q, B q → A q) : Shs B t U :=
  ⟨((h.1.kept hk).moved hW.alike).narrow hAB, ((h.2.1.kept hk).moved hW.alike).narrow hAB, ((h.2.2.1.kept hk).moved hW.alike).narrow hAB, ((h.2.2.2.1.kept hk).moved hW.alike).narrow hAB, h.2.2.2.2.moved hW.alike⟩
theorem Pm.to {D : va_G} {gA : Nat → ClassId} {ad : Nat → Nat} {sz : Nat} {h : Hp} {u U : State} (g : Pm D gA ad sz h u) (hW : u.WarmedH U.vm) (hh : U.heap = u.heap) : Pm D gA ad sz h U :=
  ⟨by rw [hh]; exact g.1, fun w hw => wl_warm hW hw (g.2.1 w hw), g.2.2.1.moved hW.alike, by rw [hh]; exact g.2.2.2.1, g.2.2.2.2.1, g.2.2.2.2.2.to hW (fun _ _ _ => by rw [hh]) (fun _ h => h)⟩
theorem Pm.blind {av : List Value} {D : va_G} {gA : Nat → ClassId} {ad : Nat → Nat} {sz : Nat} {h : Hp} : FrameBlind (va_Pc av (Pm D gA ad sz h)) :=
  fun a U g mk q => ⟨q.1, q.2.to (U := U.calling g mk a) (State.WarmedH.refl U) rfl⟩
section GC
variable {M : MD} {R : Room} {E : Ex} {cs : Nat × Nat} {pc : Nat} {lv : Lv} {st : List Value} {h : Hp}
/-- what the callee finds -/
theorem Pm.call {p : Program} {l : Launch} {s : State} {m : MethodId} {args : Array Value} {meth : Method} {c : Code} {A : Nat → Prop} {D : va_G} {gA : Nat → ClassId} {H : Heap} {locs : List Loc} {ad : Nat → Nat} (C : Cx M p l s m args meth c A D gA (ad shx)) (hr : Rp A D gA s H locs ad h) {U : State} (hU : U.heap = H) (hW : s.WarmedH U.vm) : Pm D gA ad H.size h U := by
  have hAB : ∀ q, va_A (wsO gA ad h) H.size q → A q := by
    intro q hq
    rcases hq with ⟨k, e, hk⟩ | hq
    · exact hr.2.1.2 k _ hk
    · exact C.hA q (Nat.le_trans hr.2.2.1 hq)
  refine ⟨by rw [hU], fun w hw => wl_warm hW hw (C.ts w hw), C.K.moved hW.alike, by rw [hU]; exact hr.1, hr.2.1.weaken (fun _ _ _ _ => trivial), C.sh.to hW (fun a ha hn => by rw [hU]; exact hr.2.2.2.1 a ha hn) hAB⟩
def okr (n : Nat) : Value → Bool
  | .ref k => decide (k < n) || decide (shx ≤ k)
  | _ => true
def vld (n : Nat) (lv : Lv) (st : List Value) : Bool := lv.all (fun q => okr n q.2) && st.all (okr n)
theorem cv_ok {n n' : Nat} {ad ad' : Nat → Nat} (hx : Ext n ad n' ad') {v : Value} (hv : okr n v = true) : cv ad' v = cv ad v := by
  cases v <;> try rfl
  rename_i k
  simp only [okr, Bool.or_eq_true, decide_eq_true_eq] at hv
  show Value.ref (ad' k) = Value.ref (ad k)
  rw [hx.2.1 k hv]
theorem vld_lv {n n' : Nat} {ad ad' : Nat → Nat} {lv : Lv} {st : List Value} (hx : Ext n ad n' ad') (hv : vld n lv st = true ∨ n' = n) : lvm ad' lv = lvm ad lv ∧ st.map (cv ad') = st.map (cv ad) := by
  rcases hv with hv | hv
  · simp only [vld, Bool.and_eq_true, List.all_eq_true] at hv
    exact ⟨List.map_congr_left fun q hq => by rw [cv_ok hx (hv.1 q hq)], List.map_congr_left fun q hq => cv_ok hx (hv.2 q hq)⟩
  · rw [hx.2.2 hv]
    exact ⟨rfl, rfl⟩
/-- behind a call -/
theorem G.ran {p : Program} {l : Launch} {e : Env} {s : State} {m : MethodId} {args : Array Value} {below : List Frame} {meth : Method} {c : Code} {Q' : State → Prop} {A : Nat → Prop} {D : va_G} {gA : Nat → ClassId} {H : Heap} {locs : List Loc} {ls : Array Slot} {ad : Nat → Nat} {mc ms : Nat} {st0 : List Value} {a : Array Value} {Q : Option Value → Hp → Prop}
    (C : Cx M p l s m args meth c A D gA (ad shx)) (hr : Rp A D gA s H locs ad h) (hl : lv_has ls M.2.2.1 (lvm ad lv))
    (hE : ∀ (cs' : Nat × Nat) (pc' : Nat) (lv' : Lv) (st' : List Value) (h' : Hp) (H' : Heap) (locs' : List Loc) (ls' : Array Slot) (ad' : Nat → Nat), E cs' pc' lv' st' h' → Ext h.1.length ad h'.1.length ad' → Rp A D gA s H' locs' ad' h' → lv_has ls' M.2.2.1 (lvm ad' lv') →
      W p l e R s m args below meth c H' locs' cs'.1 cs'.2 Q' (F0 m pc' ls' (st'.map (cv ad'))))
    (hv : vld h.1.length lv st = true ∨ ∀ v h', Q v h' → h'.1.length = h.1.length)
    (run : va_Run p l e R s m args below meth c H locs cs.1 cs.2 mc ms (F0 m pc ls st0) (st.map (cv ad)) (Qm D gA ad H.size h Q a) (va_A (wsO gA ad h) H.size))
    (k : ∀ v h', Q v h' → G M R E (cs.1 + mc, cs.2 + ms) (pc + 3) lv (v.toList ++ st) h') : W p l e R s m args below meth c H locs cs.1 cs.2 Q' (F0 m pc ls st0) := by
  intro T hT X
  obtain ⟨v, st₀, t, T', L, h0, X', hL, e1, e2, ⟨⟨r, h', ad', hv', hq, hx, hP', hD'⟩, hz, hk⟩, stp⟩ := run T hT X
  have hAB : ∀ q, va_A (wsO gA ad h) H.size q → A q := by
    intro q hq
    rcases hq with ⟨k, e, hk⟩ | hq
    · exact hr.2.1.2 k _ hk
    · exact C.hA q (Nat.le_trans hr.2.2.1 hq)
  rw [h0] at hz hk
  have hS : va_S A s.heap T'.heap (locs ++ L) := ⟨Nat.le_trans hr.2.2.1 (by rw [e1]; exact hz), fun q h1 h2 => by rw [e1, hk q (Nat.lt_of_lt_of_le h1 hr.2.2.1) (fun z => h2 (hAB q z))]; exact hr.2.2.2.1 q h1 h2, fun q hq => by
      rcases List.mem_append.mp hq with h | h
      · exact hr.2.2.2.2 q h
      · exact hAB _ (hL q h)⟩
  cases hv'
  have hvv := vld_lv (lv := lv) (st := st) hx (hv.imp id (fun z => z r h' hq))
  have hs : ad' shx = ad shx := hx.2.1 _ (Or.inr (Nat.le_refl _))
  have kk := k r h' hq p l e s m args below meth c Q' A D gA T'.heap (locs ++ L) ls ad' (by rw [hs]; exact C) ⟨by rw [e1]; exact hP', hD'.weaken (fun _ q _ z => hAB _ z), hS⟩ (by rw [hvv.1]; exact hl) (fun cs2 pc2 lv2 st2 h2 H2 l2 ls2 ad2 he2 hx2 hr2 hl2 => hE cs2 pc2 lv2 st2 h2 H2 l2 ls2 ad2 he2 (hx.tr hx2) hr2 hl2)
  have hst : ((r.toList ++ st).map (cv ad')) = (r.map (cv ad')).toList ++ st.map (cv ad) := by
    rw [List.map_append, hvv.2]
    cases r <;> rfl
  rw [hst] at kk
  obtain ⟨t2, a1, b1⟩ := kk T' rfl X'
  exact ⟨t2, stp t2 a1, b1⟩
def dOk (M' : MD) (n : Nat) : Prop := M'.1.cls ≠ "java/lang/invoke/MethodHandle" ∧ M'.1.cls ≠ "java/lang/invoke/VarHandle" ∧ (parseMethodDescriptor M'.1.desc).map (fun d => d.parameters.length) = some n
def VOk (own : String) (idx : Nat) (M' : MD) (n : Nat) : Prop := GoodIn wl (wsV own idx M'.1.cls M'.1 [cdw M']) ∧ dOk M' n
def SOk (own : String) (idx : Nat) (M' : MD) (n : Nat) : Prop := GoodIn wl (va_wsS own idx M'.1 [cdw M']) ∧ dOk M' n
def IOk (own : String) (idx : Nat) (M' : MD) (n : Nat) : Prop := GoodIn wl [cdw M'] ∧ Cond.initialized M'.1.cls ∈ wl ∧ Cond.methodLink own idx M'.1 ∈ wl ∧ Cond.instanceMethod M'.1 ∈ wl ∧ M'.1.name = "<init>" ∧ M'.2.2.2.1 = none ∧ dOk M' n
def SNOk (own : String) (idx : Nat) (M' : MD) (n : Nat) : Prop := ∃ host : String, GoodIn wl [cdw M'] ∧ Cond.initialized M'.1.cls ∈ wl ∧ Cond.methodLinkNest own idx M'.1 host ∈ wl ∧ Cond.static M'.1 ∈ wl ∧ dOk M' n
def INOk (own : String) (idx : Nat) (M' : MD) (n : Nat) : Prop := ∃ host : String, GoodIn wl [cdw M'] ∧ Cond.initialized M'.1.cls ∈ wl ∧ Cond.methodLinkNest own idx M'.1 host ∈ wl ∧ Cond.instanceMethod M'.1 ∈ wl ∧ M'.1.name = "<init>" ∧ M'.2.2.2.1 = none ∧ dOk M' n
abbrev rOk (R : Room) (cs : Nat × Nat) (M' : MD) (d mc ms : Nat) (st : List Value) : Prop := (d + 1 ≤ R.frames ∧ 8 + (M'.2.2.1 + 11) + 64 * d ≤ R.locals) ∧ (cs.1 + mc ≤ R.cells ∧ cs.2 + ms ≤ R.slots) ∧ (st.map fun v => v.category).sum ≤ 8
theorem cat_sum (ad : Nat → Nat) (st : List Value) : ((st.map (cv ad)).map fun v => v.category).sum = (st.map fun v => v.category).sum := by
  rw [List.map_map]
  congr 1
  exact List.map_congr_left fun v _ => cv_cat ad v
theorem G.callV {idx n d mc ms b ci : Nat} {M' : MD} {av rs : List Value} {rr : List Nat} {Q : Option Value → Hp → Prop} (i : Nat) (hi : M.2.2.2.2[i]? = some (pc, .invokevirtual idx, 3)) (ho : VOk M.1.cls idx M' n) (hn : av.length = n) (hrs : av.reverse = rs) {qc : vw_C} (hq : cl_all[ci]? = some qc) (hqc : qc.1 = M'.1.cls) (hz : h.1[b]? = some (0, ci, rr)) (hR : rOk R cs M' d mc ms st)
    (hM : GM M' d mc ms (.ref b :: av) h Q) (hv : vld h.1.length lv st = true ∨ ∀ v h', Q v h' → h'.1.length = h.1.length) (k : ∀ v h', Q v h' → G M R E (cs.1 + mc, cs.2 + ms) (pc + 3) lv (v.toList ++ st) h') : G M R E cs pc lv (rs ++ .ref b :: st) h := by
  subst hrs
  intro p l e s m args below meth c Q' A D gA H locs ls ad C hr hl hE
  have hrun := va_runV (p := p) (l := l) (e := e) (R := R) (s := s) (m := m) (args := args) (below := below) (meth := meth) (c := c) (H := H) (locs := locs) (cells := cs.1) (slots := cs.2) (cc := M.2.1) (nL := M.2.2.1) (Ts := wl) (b := ad b) (As := av.map (cv ad)) (rest := st.map (cv ad)) (g := F0 m pc ls ((av.reverse ++ .ref b :: st).map (cv ad))) (n := n) (index := idx)
    ⟨C.x, C.b, C.ml, C.own, C.ts⟩ (hM l D gA ad H.size C.tr) (cwV (ws' := []) n C.ts ho.1 rfl rfl rfl ⟨rfl, ho.2⟩ hR.1)
    ⟨Pm.blind, by
      obtain ⟨cell, q1, q2, q3⟩ := va_recv C.K hr.1 hq (wsO_get hz)
      exact ⟨cell, q1, q2, by rw [← hqc]; exact q3⟩, fun U hU hW => ⟨rfl, Pm.call C hr hU hW⟩⟩
    rfl (by rw [List.length_map]; exact hn) hl.1 (by show (av.reverse ++ .ref b :: st).map (cv ad) = _; simp [cv]) (lv_room (by rw [cat_sum]; exact hR.2.2)) (C.ok.at hi) hR.2.1
  exact G.ran C hr hl hE hv hrun k
theorem G.callS {idx n d mc ms : Nat} {M' : MD} {av rs : List Value} {Q : Option Value → Hp → Prop} (i : Nat) (hi : M.2.2.2.2[i]? = some (pc, .invokestatic idx, 3)) (ho : SOk M.1.cls idx M' n) (hn : av.length = n) (hrs : av.reverse = rs) (hR : rOk R cs M' d mc ms st)
    (hM : GM M' d mc ms av h Q) (hv : vld h.1.length lv st = true ∨ ∀ v h', Q v h' → h'.1.length = h.1.length) (k : ∀ v h', Q v h' → G M R E (cs.1 + mc, cs.2 + ms) (pc + 3) lv (v.toList ++ st) h') : G M R E cs pc lv (rs ++ st) h := by
  subst hrs
  intro p l e s m args below meth c Q' A D gA H locs ls ad C hr hl hE
  have hrun := va_runS (p := p) (l := l) (e := e) (R := R) (s := s) (m := m) (args := args) (below := below) (meth := meth) (c := c) (H := H) (locs := locs) (cells := cs.1) (slots := cs.2) (cc := M.2.1) (nL := M.2.2.1) (Ts := wl) (As := av.map (cv ad)) (rest := st.map (cv ad)) (g := F0 m pc ls ((av.reverse ++ st).map (cv ad))) (n := n) (index := idx)
    ⟨C.x, C.b, C.ml, C.own, C.ts⟩ (hM l D gA ad H.size C.tr) (va_cwS (ws' := []) n C.ts ho.1 rfl rfl rfl ho.2 hR.1)
    ⟨Pm.blind, fun U hU hW => ⟨rfl, Pm.call C hr hU hW⟩⟩
    rfl (by rw [List.length_map]; exact hn) hl.1 (by show (av.reverse ++ st).map (cv ad) = _; simp) (lv_room (by rw [cat_sum]; exact hR.2.2)) (C.ok.at hi) hR.2.1
  exact G.ran C hr hl hE hv hrun k
theorem G.callSN {idx n d mc ms : Nat} {M' : MD} {av rs : List Value} {Q : Option Value → Hp → Prop} (i : Nat) (hi : M.2.2.2.2[i]? = some (pc, .invokestatic idx, 3)) (ho : SNOk M.1.cls idx M' n) (hn : av.length = n) (hrs : av.reverse = rs) (hR : rOk R cs M' d mc ms st)
    (hM : GM M' d mc ms av h Q) (hv : vld h.1.length lv st = true ∨ ∀ v h', Q v h' → h'.1.length = h.1.length) (k : ∀ v h', Q v h' → G M R E (cs.1 + mc, cs.2 + ms) (pc + 3) lv (v.toList ++ st) h') : G M R E cs pc lv (rs ++ st) h := by
  subst hrs
  intro p l e s m args below meth c Q' A D gA H locs ls ad C hr hl hE
  obtain ⟨host, o1, o2, o3, o4, o5⟩ := ho
  have hrun := va_runSN (p := p) (l := l) (e := e) (R := R) (s := s) (m := m) (args := args) (below := below) (meth := meth) (c := c) (H := H) (locs := locs) (cells := cs.1) (slots := cs.2) (cc := M.2.1) (nL := M.2.2.1) (Ts := wl) (As := av.map (cv ad)) (rest := st.map (cv ad)) (g := F0 m pc ls ((av.reverse ++ st).map (cv ad))) (n := n) (index := idx)
    ⟨C.x, C.b, C.ml, C.own, C.ts⟩ (hM l D gA ad H.size C.tr) ⟨va_cnB (ws' := []) n C.ts o1 rfl rfl rfl (va_Nw.of rfl (C.ts _ o3)) (C.ts _ o2) o5 hR.1, C.ts _ o4, trivial⟩
    ⟨Pm.blind, fun U hU hW => ⟨rfl, Pm.call C hr hU hW⟩⟩
    rfl (by rw [List.length_map]; exact hn) hl.1 (by show (av.reverse ++ st).map (cv ad) = _; simp) (lv_room (by rw [cat_sum]; exact hR.2.2)) (C.ok.at hi) hR.2.1
  exact G.ran C hr hl hE hv hrun k
theorem G.callI {idx n d mc ms b : Nat} {M' : MD} {av rs : List Value} {Q : Option Value → Hp → Prop} (i : Nat) (hi : M.2.2.2.2[i]? = some (pc, .invokespecial idx, 3)) (ho : IOk M.1.cls idx M' n) (hn : av.length = n) (hrs : av.reverse = rs) (hR : rOk R cs M' d mc ms st)
    (hM : GM M' d mc ms (.ref b :: av) h Q) (hv : vld h.1.length lv st = true ∨ ∀ v h', Q v h' → h'.1.length = h.1.length) (k : ∀ v h', Q v h' → G M R E (cs.1 + mc, cs.2 + ms) (pc + 3) lv (v.toList ++ st) h') : G M R E cs pc lv (rs ++ .ref b :: st) h := by
  subst hrs
  intro p l e s m args below meth c Q' A D gA H locs ls ad C hr hl hE
  obtain ⟨o1, o2, o3, o4, o5, o6, o7⟩ := ho
  have hw : [cdw M'] = Cond.code M'.1 M'.2.1 M'.2.2.1 none :: [] := by rw [← o6]
  have hrun := va_runI (p := p) (l := l) (e := e) (R := R) (s := s) (m := m) (args := args) (below := below) (meth := meth) (c := c) (H := H) (locs := locs) (cells := cs.1) (slots := cs.2) (cc := M.2.1) (nL := M.2.2.1) (Ts := wl) (b := ad b) (As := av.map (cv ad)) (rest := st.map (cv ad)) (g := F0 m pc ls ((av.reverse ++ .ref b :: st).map (cv ad))) (n := n) (index := idx)
    ⟨C.x, C.b, C.ml, C.own, C.ts⟩ (hM l D gA ad H.size C.tr) (cwI (ws' := []) n C.ts o1 hw rfl rfl (C.ts _ o2) (C.ts _ o3) (C.ts _ o4) o5 o7 hR.1)
    ⟨Pm.blind, fun U hU hW => ⟨rfl, Pm.call C hr hU hW⟩⟩
    rfl (by rw [List.length_map]; exact hn) hl.1 (by show (av.reverse ++ .ref b :: st).map (cv ad) = _; simp [cv]) (lv_room (by rw [cat_sum]; exact hR.2.2)) (C.ok.at hi) hR.2.1
  exact G.ran C hr hl hE hv hrun k
theorem G.callIN {idx n d mc ms b : Nat} {M' : MD} {av rs : List Value} {Q : Option Value → Hp → Prop} (i : Nat) (hi : M.2.2.2.2[i]? = some (pc, .invokespecial idx, 3)) (ho : INOk M.1.cls idx M' n) (hn : av.length = n) (hrs : av.reverse = rs) (hR : rOk R cs M' d mc ms st)
    (hM : GM M' d mc ms (.ref b :: av) h Q) (hv : vld h.1.length lv st = true ∨ ∀ v h', Q v h' → h'.1.length = h.1.length) (k : ∀ v h', Q v h' → G M R E (cs.1 + mc, cs.2 + ms) (pc + 3) lv (v.toList ++ st) h') : G M R E cs pc lv (rs ++ .ref b :: st) h := by
  subst hrs
  intro p l e s m args below meth c Q' A D gA H locs ls ad C hr hl hE
  obtain ⟨host, o1, o2, o3, o4, o5, o6, o7⟩ := ho
  have hw : [cdw M'] = Cond.code M'.1 M'.2.1 M'.2.2.1 none :: [] := by rw [← o6]
  have hrun := va_runIN (p := p) (l := l) (e := e) (R := R) (s := s) (m := m) (args := args) (below := below) (meth := meth) (c := c) (H := H) (locs := locs) (cells := cs.1) (slots := cs.2) (cc := M.2.1) (nL := M.2.2.1) (Ts := wl) (b := ad b) (As := av.map (cv ad)) (rest := st.map (cv ad)) (g := F0 m pc ls ((av.reverse ++ .ref b :: st).map (cv ad))) (n := n) (index := idx)
    ⟨C.x, C.b, C.ml, C.own, C.ts⟩ (hM l D gA ad H.size C.tr) ⟨va_cnB (ws' := []) n C.ts o1 hw rfl rfl (va_Nw.of rfl (C.ts _ o3)) (C.ts _ o2) o7 hR.1, o5, C.ts _ o4⟩
    ⟨Pm.blind, fun U hU hW => ⟨rfl, Pm.call C hr hU hW⟩⟩
    rfl (by rw [List.length_map]; exact hn) hl.1 (by show (av.reverse ++ .ref b :: st).map (cv ad) = _; simp [cv]) (lv_room (by rw [cat_sum]; exact hR.2.2)) (C.ok.at hi) hR.2.1
  exact G.ran C hr hl hE hv hrun k
theorem G.objI {idx b : Nat} (i : Nat) (hi : M.2.2.2.2[i]? = some (pc, .invokespecial idx, 3)) (hw1 : Cond.methodLink M.1.cls idx objectInit ∈ wl) (hw2 : Cond.instanceMethod objectInit ∈ wl) (hw3 : Cond.code objectInit ⟨#[0xb1]⟩ 1 none ∈ wl) (hf : 1 ≤ R.frames) (hlo : 20 ≤ R.locals) (hs : (st.map fun v => v.category).sum ≤ 8) (k : G M R E cs (pc + 3) lv st h) : G M R E cs pc lv (.ref b :: st) h :=
  G.go (fun p l e s m args below meth c Q A D gA H locs ls ad C hr hl kk => W.objInit C.x C.b C.own (C.ts _ hw1) (C.ts _ hw2) (C.ts _ hw3) rfl (by rw [C.ml]; exact hl.1) rfl (C.ok.at hi) hf (by
    have := lv_room (m := m) (pc := pc) (ls := ls) (rest := (Value.ref b :: st).map (cv ad)) (st := st.map (cv ad)) (by rw [cat_sum]; exact hs)
    exact Nat.le_trans (Nat.add_le_add_right this 12) hlo) kk) k
/-- the ends of a method -/
def Rt (M : MD) (mc ms : Nat) (Q : Option Value → Hp → Prop) : Ex := fun cs pc _ st h => cs.1 ≤ mc ∧ cs.2 ≤ ms ∧ ∃ i : Nat,
  (M.2.2.2.2[i]? = some (pc, .return_, 1) ∧ M.2.2.2.1 = none ∧ st = [] ∧ Q none h) ∨
  (∃ (ty : FieldType) (v : Int32), M.2.2.2.2[i]? = some (pc, .ireturn, 1) ∧ M.2.2.2.1 = some ty ∧ narrow ty (.int v) = .int v ∧ st = [.int v] ∧ Q (some (.int v)) h) ∨
  (∃ v : Int64, M.2.2.2.2[i]? = some (pc, .lreturn, 1) ∧ M.2.2.2.1 = some .long ∧ st = [.long v] ∧ Q (some (.long v)) h)
theorem G.vret {mc ms : Nat} {Q : Option Value → Hp → Prop} (i : Nat) (hi : M.2.2.2.2[i]? = some (pc, .return_, 1)) (hr : M.2.2.2.1 = none) (h1 : cs.1 ≤ mc) (h2 : cs.2 ≤ ms) (hq : Q none h) : G M R (Rt M mc ms Q) cs pc lv [] h := G.exit ⟨h1, h2, i, Or.inl ⟨hi, hr, rfl, hq⟩⟩
theorem G.iret {mc ms : Nat} {Q : Option Value → Hp → Prop} {ty : FieldType} {v : Int32} (i : Nat) (hi : M.2.2.2.2[i]? = some (pc, .ireturn, 1)) (hr : M.2.2.2.1 = some ty) (hn : narrow ty (.int v) = .int v) (h1 : cs.1 ≤ mc) (h2 : cs.2 ≤ ms) (hq : Q (some (.int v)) h) : G M R (Rt M mc ms Q) cs pc lv [.int v] h := G.exit ⟨h1, h2, i, Or.inr (Or.inl ⟨ty, v, hi, hr, hn, rfl, hq⟩)⟩
theorem G.lret {mc ms : Nat} {Q : Option Value → Hp → Prop} {v : Int64} (i : Nat) (hi : M.2.2.2.2[i]? = some (pc, .lreturn, 1)) (hr : M.2.2.2.1 = some .long) (h1 : cs.1 ≤ mc) (h2 : cs.2 ≤ ms) (hq : Q (some (.long v)) h) : G M R (Rt M mc ms Q) cs pc lv [.long v] h := G.exit ⟨h1, h2, i, Or.inr (Or.inr ⟨v, hi, hr, rfl, hq⟩)⟩
theorem lv_args_m (ad : Nat → Nat) : ∀ (av : List Value) (n : Nat), lv_args n (av.map (cv ad)) = lvm ad (lv_args n av)
  | [], n => rfl
  | v :: vs, n => by
    simp only [List.map_cons, lv_args, cv_cat, lvm]
    rw [lv_args_m ad vs]
    rfl
theorem lg_sl_m (ad : Nat → Nat) : ∀ (av : List Value), (lg_sl (av.map (cv ad))).length = (lg_sl av).length
  | [] => rfl
  | v :: vs => by
    have ih := lg_sl_m ad vs
    simp only [lg_sl, List.map_cons, List.flatMap_cons, List.length_append, cv_cat] at ih ⊢
    rw [ih]
    by_cases hc : v.category = 2 <;> simp [hc]
theorem GM.of {d mc ms : Nat} {av : List Value} {Q : Option Value → Hp → Prop} (hok : MOk M) (hpl : plainName M.1.cls = true) (hlen : (lg_sl av).length ≤ M.2.2.1) (g : G M (rmd d mc ms) (Rt M mc ms Q) (0, 0) 0 (lv_args 0 av) [] h) : GM M d mc ms av h Q := by
  intro l D gA ad sz htr
  refine Met.ofW (cc := M.2.1) (maxL := M.2.2.1) (ret := M.2.2.2.1) (ws' := []) hpl rfl ?_
  intro p e s m args below meth c s₁ B hml hv
  obtain ⟨rfl, hsz, hw, hK, hP, hD, hS⟩ := hv
  subst hsz
  have hlk : meth.locks = false := B.notSynchronized
  have C : Cx M p l s m (av.map (cv ad)).toArray meth c (va_A (wsO gA ad h) s.heap.size) D gA (ad shx) := ⟨B.exec, B.bytes, B.returns, hml, findClass_of_methodNamed B.named, fun w h9 => wl_warm (State.WarmedH.refl s) h9 (hw w h9), hK, fun q hq => Or.inr hq, hlk, (name_of_methodNamed B.named B.method).1, hok, hS, htr⟩
  have hl := lv_entry (av.map (cv ad)) (n := M.2.2.1) (by rw [lg_sl_m]; exact hlen)
  rw [lg_entry_eq]
  rw [lv_args_m] at hl
  refine g p l e s m _ below meth c _ _ D gA s.heap [] _ ad C ⟨hP, hD.self, va_S.rf⟩ hl ?_
  intro cs' pc' lv' st' h' H' locs' ls' ad' hE hx hr' hl'
  obtain ⟨h1, h2, i, hE⟩ := hE
  refine W.widen (k := mc) (n := ms) h1 h2 ?_
  have hf : ∀ q ∈ locs', va_A (wsO gA ad h) s.heap.size q.base := hr'.2.2.2.2
  rcases hE with ⟨hi, hret, rfl, hq⟩ | ⟨ty, v, hi, hret, hn, rfl, hq⟩ | ⟨v, hi, hret, rfl, hq⟩
  · exact W.vret B.exec B.bytes (B.returns.trans hret) (fun t ht hW => ⟨⟨none, h', ad', rfl, hq, hx, by rw [ht]; exact hr'.1, hr'.2.1⟩, hr'.2.2.F ht⟩) hf (hok.at hi) hlk
  · exact W.zret B.exec B.bytes (B.returns.trans hret) hn (fun t ht hW => ⟨⟨some (.int v), h', ad', rfl, hq, hx, by rw [ht]; exact hr'.1, hr'.2.1⟩, hr'.2.2.F ht⟩) hf (hok.at hi) hlk
  · exact W.lret B.exec B.bytes (B.returns.trans hret) (fun t ht hW => ⟨⟨some (.long v), h', ad', rfl, hq, hx, by rw [ht]; exact hr'.1, hr'.2.1⟩, hr'.2.2.F ht⟩) hf (hok.at hi) hlk
end GC

/-! the law's helpers that catch what lamp, fault and row throw -/
def cdh (M : MD) (hh : List (Nat × Nat × Nat × Nat)) : Cond := Cond.codeWith M.1 M.2.1 M.2.2.1 M.2.2.2.1 hh
def GMH (M : MD) (hh : List (Nat × Nat × Nat × Nat)) (d mc ms : Nat) (av : List Value) (h : Hp) (Q : Option Value → Hp → Prop) : Prop :=
  ∀ (l : Launch) (D : va_G) (gA : Nat → ClassId) (ad : Nat → Nat) (sz : Nat), l.stackTraces = false → Met l M.1 [cdh M hh] (rmd d mc ms) (va_Pc (av.map (cv ad)) (Pm D gA ad sz h)) (Qm D gA ad sz h Q) mc ms (va_A (wsO gA ad h) sz)
theorem met_of_vx {l : Launch} {y : MethodName} {ws : List Cond} {rm : Room} {Pc : Array Value → State → Prop} {Qc : Array Value → State → Outcome → State → Prop} {mc ms : Nat} {free : Addr → Prop} (h : vx_Met l y ws rm Pc Qc (fun _ _ _ => False) mc ms free) : Met l y ws rm Pc Qc mc ms free := by
  intro p e ha hc hk s m args below hf happ hP hK
  obtain ⟨t, o, h1, h2, h3, hQ⟩ := h p e ha hc hk s m args below hf happ hP hK
  rcases hQ with hQ | ⟨q, -, E, ce, L, hx, -⟩
  · exact ⟨t, o, h1, h2, h3, hQ⟩
  · exact hx.elim
section GXC
variable {M : MD} {R : Room} {E : Ex} {cs : Nat × Nat} {pc : Nat} {lv : Lv} {st : List Value} {h : Hp}
theorem G.ranX {p : Program} {l : Launch} {e : Env} {s : State} {m : MethodId} {args : Array Value} {below : List Frame} {meth : Method} {c : Code} {Q' : State → Prop} {A : Nat → Prop} {D : va_G} {gA : Nat → ClassId} {H : Heap} {locs : List Loc} {ls : Array Slot} {ad : Nat → Nat} {mc ms : Nat} {st0 : List Value} {a : Array Value} {Q : Option Value → Hp → Prop} {Tx : Prop}
    (C : Cx M p l s m args meth c A D gA (ad shx)) (hr : Rp A D gA s H locs ad h) (hl : lv_has ls M.2.2.1 (lvm ad lv))
    (hE : ∀ (cs' : Nat × Nat) (pc' : Nat) (lv' : Lv) (st' : List Value) (h' : Hp) (H' : Heap) (locs' : List Loc) (ls' : Array Slot) (ad' : Nat → Nat), E cs' pc' lv' st' h' → Ext h.1.length ad h'.1.length ad' → Rp A D gA s H' locs' ad' h' → lv_has ls' M.2.2.1 (lvm ad' lv') →
      W p l e R s m args below meth c H' locs' cs'.1 cs'.2 Q' (F0 m pc' ls' (st'.map (cv ad'))))
    (hv : vld h.1.length lv st = true ∨ ∀ v h', Q v h' → h'.1.length = h.1.length)
    (run : vx_Run p l e R s m args below meth c H locs cs.1 cs.2 mc ms (F0 m pc ls st0) (st.map (cv ad)) (Qm D gA ad H.size h Q a) (fun E st t => Tx ∧ E = nse ∧ va_P D cl_all (wsO gA ad h) t.heap ∧ va_F (va_A (wsO gA ad h) H.size) st t) (va_A (wsO gA ad h) H.size))
    (k : ∀ v h', Q v h' → G M R E (cs.1 + mc, cs.2 + ms) (pc + 3) lv (v.toList ++ st) h')
    (kx : Tx → ∀ (q : Addr) (ce : Cell) (H1 : Heap) (locs1 : List Loc), Rp A D gA s H1 locs1 ad h → H1[q]? = some ce → ce.vm = .none → s.vm.findClass nse = some ce.cls → vx_W p l e R s m args below meth c H1 locs1 (cs.1 + mc) (cs.2 + ms) Q' (F0 m pc ls (st.map (cv ad))) q) :
    W p l e R s m args below meth c H locs cs.1 cs.2 Q' (F0 m pc ls st0) := by
  intro T hT X
  have hAB : ∀ q, va_A (wsO gA ad h) H.size q → A q := by
    intro q hq
    rcases hq with ⟨k, e, hk⟩ | hq
    · exact hr.2.1.2 k _ hk
    · exact C.hA q (Nat.le_trans hr.2.2.1 hq)
  rcases run T hT X with ⟨v, st₀, t, T', L, h0, X', hL, e1, e2, ⟨⟨r, h', ad', hv', hq, hx, hP', hD'⟩, hz, hk⟩, stp⟩ | ⟨q, st₀, t, T', L, E9, ce, h0, X', hL, e1, e2, ⟨htx, hEn, hPx, hz, hk⟩, hce, hcv, hcl, stp⟩
  · rw [h0] at hz hk
    have hS : va_S A s.heap T'.heap (locs ++ L) := ⟨Nat.le_trans hr.2.2.1 (by rw [e1]; exact hz), fun q h1 h2 => by rw [e1, hk q (Nat.lt_of_lt_of_le h1 hr.2.2.1) (fun z => h2 (hAB q z))]; exact hr.2.2.2.1 q h1 h2, fun q hq => by
        rcases List.mem_append.mp hq with h | h
        · exact hr.2.2.2.2 q h
        · exact hAB _ (hL q h)⟩
    cases hv'
    have hvv := vld_lv (lv := lv) (st := st) hx (hv.imp id (fun z => z r h' hq))
    have hs : ad' shx = ad shx := hx.2.1 _ (Or.inr (Nat.le_refl _))
    have kk := k r h' hq p l e s m args below meth c Q' A D gA T'.heap (locs ++ L) ls ad' (by rw [hs]; exact C) ⟨by rw [e1]; exact hP', hD'.weaken (fun _ q _ z => hAB _ z), hS⟩ (by rw [hvv.1]; exact hl) (fun cs2 pc2 lv2 st2 h2 H2 l2 ls2 ad2 he2 hx2 hr2 hl2 => hE cs2 pc2 lv2 st2 h2 H2 l2 ls2 ad2 he2 (hx.tr hx2) hr2 hl2)
    have hst : ((r.toList ++ st).map (cv ad')) = (r.map (cv ad')).toList ++ st.map (cv ad) := by
      rw [List.map_append, hvv.2]
      cases r <;> rfl
    rw [hst] at kk
    obtain ⟨t2, a1, b1⟩ := kk T' rfl X'
    exact ⟨t2, stp t2 a1, b1⟩
  · rw [h0] at hz hk
    subst hEn
    have hS : va_S A s.heap T'.heap (locs ++ L) := ⟨Nat.le_trans hr.2.2.1 (by rw [e1]; exact hz), fun q h1 h2 => by rw [e1, hk q (Nat.lt_of_lt_of_le h1 hr.2.2.1) (fun z => h2 (hAB q z))]; exact hr.2.2.2.1 q h1 h2, fun q hq => by
        rcases List.mem_append.mp hq with h | h
        · exact hr.2.2.2.2 q h
        · exact hAB _ (hL q h)⟩
    obtain ⟨t2, a1, b1⟩ := kx htx q ce T'.heap (locs ++ L) ⟨by rw [e1]; exact hPx, hr.2.1, hS⟩ (by rw [e1]; exact hce) hcv hcl T' rfl X'
    exact ⟨t2, stp.trans a1, b1⟩
end GXC
/-- a helper: a run to the call, the call, what comes back, or what is caught -/
theorem GMH.of {M M' : MD} {d d' n ci idx b e1 hpc hret i i2 pc : Nat} {av av' rs st : List Value} {lv : Lv} {rr : List Nat} {h : Hp} {r : Option Value} {Q : Option Value → Hp → Prop} {qc : vw_C} (hok : MOk M) (hpl : plainName M.1.cls = true) (hcls : M.1.cls = RL) (hret' : M.2.2.2.1 = some .int) (hlen : (lg_sl av).length ≤ M.2.2.1)
    (hi : M.2.2.2.2[i]? = some (pc, .invokevirtual idx, 3)) (hi2 : M.2.2.2.2[i2]? = some (hret, .ireturn, 1)) (ho : VOk M.1.cls idx M' n) (hn : av'.length = n) (hrs : av'.reverse = rs) (hq : cl_all[ci]? = some qc) (hqc : qc.1 = M'.1.cls) (hz : h.1[b]? = some (0, ci, rr)) (hR : rOk (rmd d 1 6) (0, 0) M' d' 1 6 st) (hc : decide (0 ≤ pc ∧ pc < e1) = true)
    (hM : XMt M' d' (.ref b :: av') h r)
    (g1 : G M (rmd d 1 6) (fun a1 a2 a3 a4 a5 => a1 = (0, 0) ∧ a2 = pc ∧ a3 = lv ∧ a4 = rs ++ .ref b :: st ∧ a5 = h) (0, 0) 0 (lv_args 0 av) [] h)
    (k : ∀ v, r = some v → G M (rmd d 1 6) (Rt M 1 6 Q) (1, 6) (pc + 3) lv (v :: st) h) (hQx : r = none → Q (some (.int 1)) h)
    (tl : ∀ (p : Program) (l : Launch) (e : Env) (s : State) (m : MethodId) (args : Array Value) (below : List Frame) (meth : Method) (c : Code) (Q' : State → Prop) (H : Heap) (locs : List Loc) (cells slots : Nat) (ls : Array Slot) (lv : Lv) (q : Nat), p.tables.exec = Jvm.exec → c.code = M.2.1 → lv_has ls M.2.2.1 lv → (∀ ls', W p l e (rmd d 1 6) s m args below meth c H locs cells slots Q' (F0 m hret ls' [.int 1])) → W p l e (rmd d 1 6) s m args below meth c H locs cells slots Q' (F0 m hpc ls [.ref q])) :
    GMH M [(0, e1, hpc, 13)] d 1 6 av h Q := by
  intro l D gA ad sz htr
  refine met_of_vx (vx_ofWH (cc := M.2.1) (maxL := M.2.2.1) (ret := M.2.2.2.1) (ws' := []) hpl rfl ?_)
  intro p e s m args below meth c s₁ B hml hv
  obtain ⟨rfl, hsz, hw, hK, hP, hD, hS⟩ := hv
  subst hsz
  have hlk : meth.locks = false := B.notSynchronized
  have C : Cx M p l s m (av.map (cv ad)).toArray meth c (va_A (wsO gA ad h) s.heap.size) D gA (ad shx) := ⟨B.exec, B.bytes, B.returns, hml, findClass_of_methodNamed B.named, fun w h9 => wl_warm (State.WarmedH.refl s) h9 (hw w h9), hK, fun q hq => Or.inr hq, hlk, (name_of_methodNamed B.named B.method).1, hok, hS, htr⟩
  have htab : c.exceptionTable.toList = tableOf [(0, e1, hpc, 13)] := vx_table (x := M.1) B (atoms_spec (ws := [cdh M [(0, e1, hpc, 13)]]) B.pre _ List.mem_cons_self)
  have hl := lv_entry (av.map (cv ad)) (n := M.2.2.1) (by rw [lg_sl_m]; exact hlen)
  rw [lg_entry_eq]
  rw [lv_args_m] at hl
  refine vx_ret ?_
  refine g1 p l e s m _ below meth c _ _ D gA s.heap [] _ ad C ⟨hP, hD.self, va_S.rf⟩ hl ?_
  intro cs' pc' lv' st' h' H' locs' ls' ad' hE hx hr' hl'
  obtain ⟨rfl, rfl, rfl, rfl, rfl⟩ := hE
  have had : ad' = ad := hx.2.2 rfl
  subst had
  subst hrs
  have hrun := vx_runV (p := p) (l := l) (e := e) (R := rmd d 1 6) (s := s) (m := m) (args := (av.map (cv ad')).toArray) (below := below) (meth := meth) (c := c) (H := H') (locs := locs') (cells := 0) (slots := 0) (cc := M.2.1) (nL := M.2.2.1) (Ts := wl) (b := ad' b) (As := av'.map (cv ad')) (rest := st.map (cv ad')) (g := F0 m pc' ls' ((av'.reverse ++ .ref b :: st).map (cv ad'))) (n := n) (index := idx)
    ⟨C.x, C.b, C.ml, C.own, C.ts⟩ (hM l D gA ad' H'.size C.tr) (cwV (ws' := []) n C.ts ho.1 rfl rfl rfl ⟨rfl, ho.2⟩ hR.1)
    ⟨Pm.blind, by
      obtain ⟨cell, q1, q2, q3⟩ := va_recv C.K hr'.1 hq (wsO_get hz)
      exact ⟨cell, q1, q2, by rw [← hqc]; exact q3⟩, fun U hU hW => ⟨rfl, Pm.call C hr' hU hW⟩⟩
    rfl (by rw [List.length_map]; exact hn) hl'.1 (by show (av'.reverse ++ .ref b :: st).map (cv ad') = _; simp [cv]) (lv_room (by rw [cat_sum]; exact hR.2.2)) (C.ok.at hi) hR.2.1
  have ends : ∀ (cs2 : Nat × Nat) (pc2 : Nat) (lv2 : Lv) (st2 : List Value) (h2 : Hp) (H2 : Heap) (l2 : List Loc) (ls2 : Array Slot) (ad2 : Nat → Nat), Rt M 1 6 Q cs2 pc2 lv2 st2 h2 → Ext h'.1.length ad' h2.1.length ad2 → Rp (va_A (wsO gA ad' h') s.heap.size) D gA s H2 l2 ad2 h2 →
      W p l e (rmd d 1 6) s m (av.map (cv ad')).toArray below meth c H2 l2 cs2.1 cs2.2 (MQ below (Qm D gA ad' s.heap.size h' Q) (av.map (cv ad')).toArray s 1 6 (va_A (wsO gA ad' h') s.heap.size)) (F0 m pc2 ls2 (st2.map (cv ad2))) := by
    intro cs2 pc2 lv2 st2 h2 H2 l2 ls2 ad2 hE hx2 hr2
    obtain ⟨h1, h2', i9, hE⟩ := hE
    refine W.widen (k := 1) (n := 6) h1 h2' ?_
    have hf : ∀ q ∈ l2, va_A (wsO gA ad' h') s.heap.size q.base := hr2.2.2.2.2
    rcases hE with ⟨hi9, hret, rfl, hq9⟩ | ⟨ty, v, hi9, hret, hn9, rfl, hq9⟩ | ⟨v, hi9, hret, rfl, hq9⟩
    · exact W.vret B.exec B.bytes (B.returns.trans hret) (fun t ht hW => ⟨⟨none, h2, ad2, rfl, hq9, hx2, by rw [ht]; exact hr2.1, hr2.2.1⟩, hr2.2.2.F ht⟩) hf (hok.at hi9) hlk
    · exact W.zret B.exec B.bytes (B.returns.trans hret) hn9 (fun t ht hW => ⟨⟨some (.int v), h2, ad2, rfl, hq9, hx2, by rw [ht]; exact hr2.1, hr2.2.1⟩, hr2.2.2.F ht⟩) hf (hok.at hi9) hlk
    · exact W.lret B.exec B.bytes (B.returns.trans hret) (fun t ht hW => ⟨⟨some (.long v), h2, ad2, rfl, hq9, hx2, by rw [ht]; exact hr2.1, hr2.2.1⟩, hr2.2.2.F ht⟩) hf (hok.at hi9) hlk
  refine G.ranX (E := Rt M 1 6 Q) (cs := (0, 0)) (lv := lv') (st := st) (mc := 1) (ms := 6) (Q := fun v g => v = r ∧ r.isSome = true ∧ g = h') C hr' hl' (fun cs2 pc2 lv2 st2 h2 H2 l2 ls2 ad2 hE hx2 hr2 _ => ends cs2 pc2 lv2 st2 h2 H2 l2 ls2 ad2 hE hx2 hr2) (Or.inr fun v h9 hq9 => by rw [hq9.2.2]) hrun ?_ ?_
  · intro v h9 hq9
    obtain ⟨rfl, hs9, rfl⟩ := hq9
    cases v with
    | none => cases hs9
    | some w => exact k w rfl
  · intro htx q ce H1 locs1 hr1 hce hcv hcl
    have hown : s.vm.findClass RL = some m.cls := by rw [← hcls]; exact C.own
    refine vx_catch (own := RL) (name := nse) (E := nse) hown [] ⟨0, e1, hpc, 13⟩ [] (by rw [htab]; rfl) (fun z hz => by cases hz) ?_ (by show (13 : Nat) ≠ 0; decide) (C.ts _ nse_lk) (C.ts _ nse_ca) hce hcv hcl ?_
    · simpa [covers] using of_decide_eq_true hc
    · refine tl p l e s m _ below meth c _ H1 locs1 _ _ ls' _ q B.exec B.bytes hl' (fun ls9 => ?_)
      exact ends (1, 6) hret [] [.int 1] h' H1 locs1 ls9 ad' ⟨Nat.le_refl _, Nat.le_refl _, i2, Or.inr (Or.inl ⟨.int, 1, hi2, hret', rfl, rfl, hQx htx⟩)⟩ Ext.rf hr1

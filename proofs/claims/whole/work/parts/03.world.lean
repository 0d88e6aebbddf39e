/-! THE WORLD: an abstract heap (kinds of cells, ints, longs) and the judgement G: from a configuration of a method the machine comes to one that E holds of -/
abbrev Kd : Type := Nat × Nat × List Nat
abbrev Hp : Type := List Kd × (Nat → Nat → Int32) × (Nat → Nat → Int64)
abbrev Lv : Type := List (Nat × Value)
def shx : Nat := 1000000
def rfv (ad : Nat → Nat) : Nat → Value
  | 0 => .null
  | k + 1 => .ref (ad k)
def rfo (ad : Nat → Nat) : Nat → Option Nat
  | 0 => none
  | k + 1 => some (ad k)
def cv (ad : Nat → Nat) : Value → Value
  | .ref k => .ref (ad k)
  | v => v
/-- 0 an int of any width, 1 a long, 2 a reference -/
def fk : FieldType → Nat
  | .long => 1
  | .object _ => 2
  | .array _ => 2
  | _ => 0
abbrev cl_all : List vw_C := [(RX0, TX0, 11), (RX1, TX1, 20), (RX2, TX2, 6), (RX3, TX3, 7), (RX4, TX4, 17), (RX5, TX5, 12), (RX6, TX6, 11), (RX7, TX7, 9), (RX8, TX8, 9), (RX9, TX9, 2), (RX10, TX10, 2), (RX11, TX11, 11), (RX12, TX12, 75)]
def ctyp : Nat → Nat → FieldType
  | 0 => tyX0
  | 1 => tyX1
  | 2 => tyX2
  | 3 => tyX3
  | 4 => tyX4
  | 5 => tyX5
  | 6 => tyX6
  | 7 => tyX7
  | 8 => tyX8
  | 9 => tyX9
  | 10 => tyX10
  | 11 => tyX11
  | _ => tyX12
def cnf (c : Nat) : Nat := match cl_all[c]? with
  | some q => q.2.2
  | none => 0
def fvl (ad : Nat → Nat) (Ik : Nat → Int32) (Jk : Nat → Int64) (c : Nat) (rs : List Nat) (j : Nat) : Value := match fk (ctyp c j) with
  | 1 => .long (Jk j)
  | 2 => rfv ad (rs.getD j 0)
  | _ => .int (Ik j)
def flds (ad : Nat → Nat) (Ik : Nat → Int32) (Jk : Nat → Int64) (c : Nat) (rs : List Nat) : List Value := (List.range (cnf c)).map (fvl ad Ik Jk c rs)
/-- kinds: 0 an object (its number in cl_all, its references); 1 int[], 2 long[], 3 byte[], 4 char[], 5 boolean[] (length); 6 an array of Kept (length, references) -/
def cel (gA : Nat → ClassId) (ad : Nat → Nat) (Ik : Nat → Int32) (Jk : Nat → Int64) (kd : Kd) : va_E := match kd.1 with
  | 0 => .inr (kd.2.1, flds ad Ik Jk kd.2.1 kd.2.2)
  | 2 => .inl (gA 2, kd.2.1, .inr (.inl Jk))
  | 6 => .inl (gA 6, kd.2.1, .inr (.inr (.inr (.inr (fun i => rfo ad (kd.2.2.getD i 0))))))
  | t => .inl (gA t, kd.2.1, .inl Ik)
def wsO (gA : Nat → ClassId) (ad : Nat → Nat) (h : Hp) : va_W := h.1.mapIdx (fun k kd => (ad k, cel gA ad (h.2.1 k) (h.2.2 k) kd))
def tysO (gA : Nat → ClassId) : List (ClassId × FieldType) := [(gA 1, .int), (gA 2, .long), (gA 3, .byte), (gA 4, .char), (gA 5, .boolean), (gA 6, .object RX2)]
def ui (I : Nat → Nat → Int32) (k i : Nat) (v : Int32) : Nat → Nat → Int32 := fun a => if a = k then upd (I a) i v else I a
def uj (J : Nat → Nat → Int64) (k i : Nat) (v : Int64) : Nat → Nat → Int64 := fun a => if a = k then vp_updL (J a) i v else J a
theorem ui_k (I : Nat → Nat → Int32) (k i : Nat) (v : Int32) : ui I k i v k = upd (I k) i v := if_pos rfl
theorem ui_ne {I : Nat → Nat → Int32} {k i a : Nat} {v : Int32} (h : a ≠ k) : ui I k i v a = I a := if_neg h
theorem uj_k (I : Nat → Nat → Int64) (k i : Nat) (v : Int64) : uj I k i v k = vp_updL (I k) i v := if_pos rfl
theorem uj_ne {I : Nat → Nat → Int64} {k i a : Nat} {v : Int64} (h : a ≠ k) : uj I k i v a = I a := if_neg h
def lvm (ad : Nat → Nat) (lv : Lv) : Lv := lv.map (fun q => (q.1, cv ad q.2))
theorem cv_cat (ad : Nat → Nat) (v : Value) : (cv ad v).category = v.category := by cases v <;> rfl
theorem wsO_get {gA : Nat → ClassId} {ad : Nat → Nat} {h : Hp} {k : Nat} {kd : Kd} (hz : h.1[k]? = some kd) : (wsO gA ad h)[k]? = some (ad k, cel gA ad (h.2.1 k) (h.2.2 k) kd) := by
  simp [wsO, List.getElem?_mapIdx, hz]
theorem wsO_setI {gA : Nat → ClassId} {ad : Nat → Nat} {Z : List Kd} {I : Nat → Nat → Int32} {J : Nat → Nat → Int64} {k i : Nat} {v : Int32} {kd : Kd} (hz : Z[k]? = some kd) :
    (wsO gA ad (Z, I, J)).set k (ad k, cel gA ad (upd (I k) i v) (J k) kd) = wsO gA ad (Z, ui I k i v, J) := by
  apply List.ext_getElem?
  intro n
  by_cases hn : n = k
  · subst hn
    have hl : n < Z.length := (List.getElem?_eq_some_iff.mp hz).1
    rw [List.getElem?_set_self (by simpa [wsO] using hl), wsO_get hz]
    show _ = some (ad n, cel gA ad (ui I n i v n) (J n) kd)
    rw [ui_k]
  · rw [List.getElem?_set_ne (Ne.symm hn)]
    simp [wsO, List.getElem?_mapIdx, ui_ne hn]
theorem wsO_setJ {gA : Nat → ClassId} {ad : Nat → Nat} {Z : List Kd} {I : Nat → Nat → Int32} {J : Nat → Nat → Int64} {k i : Nat} {v : Int64} {kd : Kd} (hz : Z[k]? = some kd) :
    (wsO gA ad (Z, I, J)).set k (ad k, cel gA ad (I k) (vp_updL (J k) i v) kd) = wsO gA ad (Z, I, uj J k i v) := by
  apply List.ext_getElem?
  intro n
  by_cases hn : n = k
  · subst hn
    have hl : n < Z.length := (List.getElem?_eq_some_iff.mp hz).1
    rw [List.getElem?_set_self (by simpa [wsO] using hl), wsO_get hz]
    show _ = some (ad n, cel gA ad (I n) (uj J n i v n) kd)
    rw [uj_k]
  · rw [List.getElem?_set_ne (Ne.symm hn)]
    simp [wsO, List.getElem?_mapIdx, uj_ne hn]
theorem wsO_setZ {gA : Nat → ClassId} {ad : Nat → Nat} {Z : List Kd} {I : Nat → Nat → Int32} {J : Nat → Nat → Int64} {k : Nat} {kd' : Kd} (hk : k < Z.length) :
    (wsO gA ad (Z, I, J)).set k (ad k, cel gA ad (I k) (J k) kd') = wsO gA ad (Z.set k kd', I, J) := by
  apply List.ext_getElem?
  intro n
  by_cases hn : n = k
  · subst hn
    rw [List.getElem?_set_self (by simpa [wsO] using hk), wsO_get (h := (Z.set n kd', I, J)) (List.getElem?_set_self hk)]
  · rw [List.getElem?_set_ne (Ne.symm hn)]
    simp [wsO, List.getElem?_mapIdx, List.getElem?_set_ne (Ne.symm hn)]
/-- words that hold in every state of the run -/
def qx : Cond → Bool
  | .declares _ => true
  | .castable _ _ => true
  | _ => false
def qw (w : Cond) : Bool := ((w.onTables && w.keepsH) || goodWord w) || qx w
def wl : List Cond := lw_tbl.filter qw
theorem wl_of {w : Cond} (i : Nat) (h : lw_tbl[i]? = some w) (hq : qw w = true) : w ∈ wl := List.mem_filter.mpr ⟨List.mem_of_getElem? h, hq⟩
theorem wl_warm {args a' : Array Value} {s U : State} (hW : s.WarmedH U.vm) {w : Cond} (hw : w ∈ wl) (h : w.before args s = true) : w.before a' U = true := by
  have hq : qw w = true := (List.mem_filter.mp hw).2
  simp only [qw, Bool.or_eq_true, Bool.and_eq_true] at hq
  rcases hq with (hq | hq) | hq
  · have h1 := Cond.onTables_warmH (T := U) (args' := a') hW hq.1 hq.2 h
    rwa [State.setVm_self] at h1
  · exact word_at hW (good_of_word hq) h
  · cases w <;> first | cases hq | skip
    · exact va_Nw.use rfl (va_Nw.warmD hW (va_Nw.of rfl h))
    · exact va_Nw.use rfl (va_Nw.warmC hW (va_Nw.of rfl h))
/-- a method: its name, its bytes, locals, return type, its instructions by their places -/
abbrev MD : Type := MethodName × ByteArray × Nat × Option FieldType × List (Nat × Instr × Nat)
def MOk (M : MD) : Prop := ∀ t ∈ M.2.2.2.2, decode M.2.1 t.1 = .ok (t.2.1, t.2.2)
def shf : Nat → Value := fun k => .int (([0, 27720, 13860, 9240, 6930, 5544, 4620, 3960, 3465, 3080, 2772, 2520] : List Int32).getD k 0)
def Shs (A : Nat → Prop) (t : Nat) (U : State) : Prop := va_Z "NinetyLamps$Flow" "SHARES" "[I" (.ref t) A U U.heap ∧ va_T .int t 12 shf A U U.heap ∧ vx_Zq Bundle.tN "UNASSIGNED_STACK" Bundle.steD A U U.heap ∧ vx_Zq Bundle.tN "SUPPRESSED_SENTINEL" Bundle.listD A U U.heap ∧ va_AO RX2 U
def Ext (n : Nat) (ad : Nat → Nat) (n' : Nat) (ad' : Nat → Nat) : Prop := n ≤ n' ∧ (∀ k, k < n ∨ shx ≤ k → ad' k = ad k) ∧ (n' = n → ad' = ad)
theorem Ext.rf {n : Nat} {ad : Nat → Nat} : Ext n ad n ad := ⟨Nat.le_refl _, fun _ _ => rfl, fun _ => rfl⟩
theorem Ext.tr {n1 n2 n3 : Nat} {a1 a2 a3 : Nat → Nat} (h : Ext n1 a1 n2 a2) (g : Ext n2 a2 n3 a3) : Ext n1 a1 n3 a3 := by
  refine ⟨Nat.le_trans h.1 g.1, fun k hk => ?_, fun e => ?_⟩
  · rw [g.2.1 k (hk.elim (fun q => Or.inl (Nat.lt_of_lt_of_le q h.1)) Or.inr), h.2.1 k hk]
  · have h1 := h.1
    have h2 := g.1
    rw [g.2.2 (by omega), h.2.2 (by omega)]
def Cx (M : MD) (p : Program) (l : Launch) (s : State) (m : MethodId) (args : Array Value) (meth : Method) (c : Code) (A : Nat → Prop) (D : va_G) (gA : Nat → ClassId) (t : Nat) : Prop :=
  p.tables.exec = Jvm.exec ∧ c.code = M.2.1 ∧ meth.sig.returnType = M.2.2.2.1 ∧ c.maxLocals = M.2.2.1 ∧ s.vm.findClass M.1.cls = some m.cls ∧ (∀ w ∈ wl, w.before args s = true) ∧ va_K D cl_all (tysO gA) s ∧ (∀ q, s.heap.size ≤ q → A q) ∧ meth.locks = false ∧ meth.name = M.1.name ∧ MOk M ∧ Shs A t s ∧ l.stackTraces = false
section CX
variable {M : MD} {p : Program} {l : Launch} {s : State} {m : MethodId} {args : Array Value} {meth : Method} {c : Code} {A : Nat → Prop} {D : va_G} {gA : Nat → ClassId} {t : Nat}
theorem Cx.x (C : Cx M p l s m args meth c A D gA t) : p.tables.exec = Jvm.exec := And.left C
theorem Cx.b (C : Cx M p l s m args meth c A D gA t) : c.code = M.2.1 := And.left (And.right C)
theorem Cx.r (C : Cx M p l s m args meth c A D gA t) : meth.sig.returnType = M.2.2.2.1 := And.left (And.right (And.right C))
theorem Cx.ml (C : Cx M p l s m args meth c A D gA t) : c.maxLocals = M.2.2.1 := And.left (And.right (And.right (And.right C)))
theorem Cx.own (C : Cx M p l s m args meth c A D gA t) : s.vm.findClass M.1.cls = some m.cls := And.left (And.right (And.right (And.right (And.right C))))
theorem Cx.ts (C : Cx M p l s m args meth c A D gA t) : ∀ w ∈ wl, w.before args s = true := And.left (And.right (And.right (And.right (And.right (And.right C)))))
theorem Cx.K (C : Cx M p l s m args meth c A D gA t) : va_K D cl_all (tysO gA) s := And.left (And.right (And.right (And.right (And.right (And.right (And.right C))))))
theorem Cx.hA (C : Cx M p l s m args meth c A D gA t) : ∀ q, s.heap.size ≤ q → A q := And.left (And.right (And.right (And.right (And.right (And.right (And.right (And.right C)))))))
theorem Cx.lk (C : Cx M p l s m args meth c A D gA t) : meth.locks = false := And.left (And.right (And.right (And.right (And.right (And.right (And.right (And.right (And.right C))))))))
theorem Cx.nm (C : Cx M p l s m args meth c A D gA t) : meth.name = M.1.name := And.left (And.right (And.right (And.right (And.right (And.right (And.right (And.right (And.right (And.right C)))))))))
theorem Cx.ok (C : Cx M p l s m args meth c A D gA t) : MOk M := And.left (And.right (And.right (And.right (And.right (And.right (And.right (And.right (And.right (And.right (And.right C))))))))))
theorem Cx.sh (C : Cx M p l s m args meth c A D gA t) : Shs A t s := And.left (And.right (And.right (And.right (And.right (And.right (And.right (And.right (And.right (And.right (And.right (And.right C)))))))))))
theorem Cx.tr (C : Cx M p l s m args meth c A D gA t) : l.stackTraces = false := And.right (And.right (And.right (And.right (And.right (And.right (And.right (And.right (And.right (And.right (And.right (And.right C)))))))))))
theorem MOk.at {M : MD} (h : MOk M) {i pc len : Nat} {ins : Instr} (hi : M.2.2.2.2[i]? = some (pc, ins, len)) : decode M.2.1 pc = .ok (ins, len) := h (pc, ins, len) (List.mem_of_getElem? hi)
end CX
def Rp (A : Nat → Prop) (D : va_G) (gA : Nat → ClassId) (s : State) (H : Heap) (locs : List Loc) (ad : Nat → Nat) (h : Hp) : Prop :=
  va_P D cl_all (wsO gA ad h) H ∧ va_D A (wsO gA ad h) ∧ va_S A s.heap H locs
abbrev Ex : Type := Nat × Nat → Nat → Lv → List Value → Hp → Prop
def G (M : MD) (R : Room) (E : Ex) (cs : Nat × Nat) (pc : Nat) (lv : Lv) (st : List Value) (h : Hp) : Prop :=
  ∀ (p : Program) (l : Launch) (e : Env) (s : State) (m : MethodId) (args : Array Value) (below : List Frame) (meth : Method) (c : Code) (Q : State → Prop) (A : Nat → Prop) (D : va_G) (gA : Nat → ClassId) (H : Heap) (locs : List Loc) (ls : Array Slot) (ad : Nat → Nat),
    Cx M p l s m args meth c A D gA (ad shx) → Rp A D gA s H locs ad h → lv_has ls M.2.2.1 (lvm ad lv) →
    (∀ (cs' : Nat × Nat) (pc' : Nat) (lv' : Lv) (st' : List Value) (h' : Hp) (H' : Heap) (locs' : List Loc) (ls' : Array Slot) (ad' : Nat → Nat), E cs' pc' lv' st' h' → Ext h.1.length ad h'.1.length ad' → Rp A D gA s H' locs' ad' h' → lv_has ls' M.2.2.1 (lvm ad' lv') →
      W p l e R s m args below meth c H' locs' cs'.1 cs'.2 Q (F0 m pc' ls' (st'.map (cv ad')))) →
    W p l e R s m args below meth c H locs cs.1 cs.2 Q (F0 m pc ls (st.map (cv ad)))
section GR
variable {M : MD} {R : Room} {E : Ex} {cs : Nat × Nat} {pc : Nat} {lv : Lv} {st : List Value} {h : Hp}
theorem G.exit (he : E cs pc lv st h) : G M R E cs pc lv st h := by
  intro p l e s m args below meth c Q A D gA H locs ls ad C hr hl hE
  exact hE cs pc lv st h H locs ls ad he Ext.rf hr hl
theorem G.tr {E1 : Ex} (g : G M R E1 cs pc lv st h) (k : ∀ cs' pc' lv' st' h', E1 cs' pc' lv' st' h' → G M R E cs' pc' lv' st' h') : G M R E cs pc lv st h := by
  intro p l e s m args below meth c Q A D gA H locs ls ad C hr hl hE
  refine g p l e s m args below meth c Q A D gA H locs ls ad C hr hl fun cs' pc' lv' st' h' H' locs' ls' ad' he hx hr' hl' => ?_
  have hs : ad' shx = ad shx := hx.2.1 _ (Or.inr (Nat.le_refl _))
  exact k cs' pc' lv' st' h' he p l e s m args below meth c Q A D gA H' locs' ls' ad' (by rw [hs]; exact C) hr' hl' (fun cs2 pc2 lv2 st2 h2 H2 l2 ls2 ad2 he2 hx2 hr2 hl2 => hE cs2 pc2 lv2 st2 h2 H2 l2 ls2 ad2 he2 (hx.tr hx2) hr2 hl2)
theorem G.mono {E1 : Ex} (g : G M R E1 cs pc lv st h) (k : ∀ cs' pc' lv' st' h', E1 cs' pc' lv' st' h' → E cs' pc' lv' st' h') : G M R E cs pc lv st h :=
  g.tr fun cs' pc' lv' st' h' he => G.exit (k cs' pc' lv' st' h' he)
/-- a row of the kit that changes the stack alone -/
theorem G.row {pc' : Nat} {st' : List Value} {ins : Instr} {len : Nat} (i : Nat) (hi : M.2.2.2.2[i]? = some (pc, ins, len))
    (row : ∀ (p : Program) (l : Launch) (e : Env) (s : State) (m : MethodId) (args : Array Value) (below : List Frame) (meth : Method) (c : Code) (Q : State → Prop) (H : Heap) (locs : List Loc) (ls : Array Slot) (ad : Nat → Nat), s.vm.findClass M.1.cls = some m.cls → (∀ w ∈ wl, w.before args s = true) → p.tables.exec = Jvm.exec → c.code = M.2.1 → decode M.2.1 pc = .ok (ins, len) →
      W p l e R s m args below meth c H locs cs.1 cs.2 Q (F0 m pc' ls (st'.map (cv ad))) → W p l e R s m args below meth c H locs cs.1 cs.2 Q (F0 m pc ls (st.map (cv ad))))
    (k : G M R E cs pc' lv st' h) : G M R E cs pc lv st h := by
  intro p l e s m args below meth c Q A D gA H locs ls ad C hr hl hE
  exact row p l e s m args below meth c Q H locs ls ad C.own C.ts C.x C.b (C.ok.at hi) (k p l e s m args below meth c Q A D gA H locs ls ad C hr hl hE)
theorem G.sub {lv' : Lv} (ks : List Nat) (hl' : lv_pick lv ks = lv') (k : G M R E cs pc lv' st h) : G M R E cs pc lv st h := by
  intro p l e s m args below meth c Q A D gA H locs ls ad C hr hl hE
  refine k p l e s m args below meth c Q A D gA H locs ls ad C hr (lv_sub hl ks ?_) hE
  subst hl'
  simp [lv_pick, lvm, List.map_filterMap, List.filterMap_map]
end GR

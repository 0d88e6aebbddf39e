/-! THE CLAIM OUT OF ONE WALK OF THE LAW'S BODY. Your part is whole_start (and what it stands on); all else here is the same for every law, but numbers. -/
def R_law : String := "NinetyLampsLaw"
def lw_P (b : Addr) (xs : List Int32) (args : Array Value) (s : State) : Prop := args = #[.ref b] ∧ s.IntsAt b xs ∧ xs.length ≤ 320 ∧ (Jvm.Cond.and given_1 narrow_1).before args s = true
def lw_Q (_ : Array Value) (s : State) (o : Outcome) (t : State) : Prop := o = .returned (some (.int 1)) ∧ Framed s o t [] 399528 7902896
def lw_Z (below : List Frame) (a : Array Value) (s : State) : State → Prop := fun t => ∃ o, t.status = .running ∧ Ended t below o ∧ lw_Q a s o t
/-- the law's own end, with 1 on the stack, nothing written that was there before, its room as the claim has it -/
theorem lw_ret {p : Program} {l : Launch} {e : Env} {s : State} {m : MethodId} {below : List Frame} {meth : Method} {c : Code} {b : Nat} (hx : p.tables.exec = Jvm.exec) (hb : c.code = code) (hr : meth.sig.returnType = ret) (hlocks : meth.locks = false) {pc : Nat} {H : Heap} {ls : Array Slot} (hdg : decode code pc = .ok (.ireturn, 1)) : W p l e room_1 s m #[Value.ref b] below meth c H [] 399528 7902896 (lw_Z below #[Value.ref b] s) (F0 m pc ls [.int 1]) := by
  intro T hT X
  obtain ⟨fs, hret, hrun, hended, hW, hframe⟩ := X.leave (v := some (.int 1)) (hlocks := hlocks) (fun h => by rw [hr] at h; cases h)
  have hmeth' : T.vm.method? m = some meth := X.method'
  refine ⟨T.setFrames fs, ?_, .returned (some (.int 1)), hrun, hended, rfl, ⟨_, rfl⟩, hW, hframe⟩
  jvm_step X.here [X.here.top, hx, hb, hdg, hmeth', hr, ret, narrow_b1]
  (try refine ⟨rfl, ?_⟩); (try refine ⟨rfl, ?_⟩)
  first | (intro acts; rw [hret _ acts rfl rfl rfl]) | rw [hret _ _ rfl rfl rfl]
  exact Steps.refl _
/-- what holds at the law's entry: the machine, the code, the tables' words (any of lw_tbl by 'hts w (by decide +kernel)'), the script of L ints xs at the cell b, what the Statement gives of the start (any of its parts by flat_of_before) -/
def lw_At (p : Program) (s : State) (m : MethodId) (meth : Method) (c : Code) (b L : Nat) (xs : Nat → Int32) : Prop :=
  p.tables.exec = Jvm.exec ∧ c.code = code ∧ meth.sig.returnType = ret ∧ c.maxLocals = 8 ∧ s.vm.findClass R_law = some m.cls ∧ (∀ w ∈ lw_tbl, w.before #[Value.ref b] s = true) ∧ va_X b L xs s s.heap ∧ b < s.heap.size ∧ meth.locks = false ∧ (Jvm.Cond.and given_1 narrow_1).before #[Value.ref b] s = true
def hz0 : HI := fun _ _ => 0
def jz0 : HJ := fun _ _ => 0
/-- the heap's ints and longs behind the law's first rows -/
def F_law0 : Option (Unit × HI × HJ) :=
  cl (F_ct1 (uf hz0 0 (fun _ => 0)) (ufj jz0 0 (fun _ => 0))) fun _ I J =>
  cl (F_ct16 (uf I 81 (fun _ => 0)) (ufj J 81 (fun _ => 0))) fun _ I J =>
  some ((), uf I 128 (fun _ => 0), ufj J 128 (fun _ => 0))
set_option maxRecDepth 100000 in
theorem F_law0_some : F_law0.isSome = true := by decide +kernel
/-- WHAT IS OWED OF THE COMPUTATIONS ALONE: an invariant that holds at the start and that every call keeps, both answering alike -/
def PureOk : Prop := ∃ Inv : Nat → Bool → HI → HJ → Prop, (∀ (I : HI) (J : HJ), F_law0 = some ((), I, J) → Inv 65 false I J) ∧ (∀ n b I J, Inv (n + 1) b I J → Inv n b I J) ∧ OpAll Inv
theorem inst_ok {ci : Nat} {q : vw_C} (h : cl_all[ci]? = some q) : Cond.instantiable q.1 q.2.2 ∈ wl := by
  match ci, h with
  | 0, h => cases h; exact wi_X0
  | 1, h => cases h; exact wi_X1
  | 2, h => cases h; exact wi_X2
  | 3, h => cases h; exact wi_X3
  | 4, h => cases h; exact wi_X4
  | 5, h => cases h; exact wi_X5
  | 6, h => cases h; exact wi_X6
  | 7, h => cases h; exact wi_X7
  | 8, h => cases h; exact wi_X8
  | 9, h => cases h; exact wi_X9
  | 10, h => cases h; exact wi_X10
  | 11, h => cases h; exact wi_X11
  | 12, h => cases h; exact wi_X12
  | n + 13, h => simp at h
set_option maxRecDepth 100000 in
set_option maxHeartbeats 4000000 in
/-- from the entry to the loop -/
theorem law_start {L : Nat} {xs : Nat → Int32} (hL : L ≤ 320) (hP : PureOk) : GL L xs lawE (0, 0) 0 [(0, .ref scx)] [] ([], hz0, jz0) := by
  obtain ⟨Inv, h0, hdn, hop⟩ := hP
  obtain ⟨⟨u0, I0, J0⟩, hF⟩ := Option.isSome_iff_exists.mp F_law0_some
  have hF0 := hF
  unfold F_law0 cl at hF
  cases hc1 : F_ct1 (uf hz0 0 (fun _ => 0)) (ufj jz0 0 (fun _ => 0)) with
  | none => rw [hc1] at hF; cases hF
  | some q1 =>
    rw [hc1] at hF
    obtain ⟨u1, I1, J1⟩ := q1
    have hF : ((F_ct16 (uf I1 81 (fun _ => 0)) (ufj J1 81 (fun _ => 0))).bind (fun q => some ((), uf q.2.1 128 (fun _ => 0), ufj q.2.2 128 (fun _ => 0)))) = some (u0, I0, J0) := hF
    cases hc2 : F_ct16 (uf I1 81 (fun _ => 0)) (ufj J1 81 (fun _ => 0)) with
    | none => rw [hc2] at hF; cases hF
    | some q2 =>
      rw [hc2] at hF
      obtain ⟨u2, I2, J2⟩ := q2
      have hF : some ((), uf I2 128 (fun _ => 0), ufj J2 128 (fun _ => 0)) = some (u0, I0, J0) := hF
      cases hF
      refine GL.g (fun _ k => G.new 11 11 0 rfl rfl rfl lo_L_8 wi_X11 wn_X11 df_X11 (by decide +kernel) rfl (Nat.le_of_ble_eq_true rfl) (Nat.le_of_ble_eq_true rfl) k) ?_
      show GL L xs lawE (1, 11) 3 [(0, .ref scx)] [.ref 0] (zc2, uf hz0 0 (fun _ => 0), ufj jz0 0 (fun _ => 0))
      refine GL.g (fun _ k => G.dup 1 rfl rfl k) ?_
      refine GL.cI (d := 3) (mc := 80) (ms := 23539) (av := []) (rs := []) (b := 0) (u1, I1, J1) hc1 2 rfl co_L_22 rfl rfl ⟨⟨Nat.le_of_ble_eq_true rfl, Nat.le_of_ble_eq_true rfl⟩, ⟨Nat.le_of_ble_eq_true rfl, Nat.le_of_ble_eq_true rfl⟩, Nat.le_of_ble_eq_true rfl⟩ (cm_ct1 _ _) rfl ?_
      show GL L xs lawE (81, 23550) 7 [(0, .ref scx)] [.ref 0] (zc173, I1, J1)
      refine GL.g (fun _ k => G.astore_n [(1, .ref 0), (0, .ref scx)] 3 rfl (by decide) rfl k) ?_
      refine GL.g (fun _ k => G.new 12 75 4 rfl rfl rfl lo_L_23 wi_X12 wn_X12 df_X12 (by decide +kernel) rfl (Nat.le_of_ble_eq_true rfl) (Nat.le_of_ble_eq_true rfl) k) ?_
      show GL L xs lawE (82, 23625) 11 [(1, .ref 0), (0, .ref scx)] [.ref 81] (zc174, uf I1 81 (fun _ => 0), ufj J1 81 (fun _ => 0))
      refine GL.g (fun _ k => G.dup 5 rfl rfl k) ?_
      refine GL.cI (d := 1) (mc := 46) (ms := 359154) (av := []) (rs := []) (b := 81) (u2, I2, J2) hc2 6 rfl co_L_25 rfl rfl ⟨⟨Nat.le_of_ble_eq_true rfl, Nat.le_of_ble_eq_true rfl⟩, ⟨Nat.le_of_ble_eq_true rfl, Nat.le_of_ble_eq_true rfl⟩, Nat.le_of_ble_eq_true rfl⟩ (cm_ct16 _ _) rfl ?_
      show GL L xs lawE (128, 382779) 15 [(1, .ref 0), (0, .ref scx)] [.ref 81] (zc266, I2, J2)
      refine GL.g (fun _ k => G.astore_n [(2, .ref 81), (1, .ref 0), (0, .ref scx)] 7 rfl (by decide) rfl k) ?_
      refine GL.g (fun _ k => G.iconst (1 : Int32) 8 rfl (by decide) k) ?_
      refine GL.g (fun _ k => G.newa 2 1 9 rfl w_arr_long rfl (fun _ => rfl) (cel_long 1) (by decide) (by decide) (by decide) (by decide +kernel) rfl (Nat.le_of_ble_eq_true rfl) (Nat.le_of_ble_eq_true rfl) k) ?_
      show GL L xs lawE (129, 382780) 19 [(2, .ref 81), (1, .ref 0), (0, .ref scx)] [.ref 128] (zs false, uf I2 128 (fun _ => 0), ufj J2 128 (fun _ => 0))
      refine GL.g (fun _ k => G.astore_n [(3, .ref 128), (2, .ref 81), (1, .ref 0), (0, .ref scx)] 10 rfl (by decide) rfl k) ?_
      refine GL.g (fun _ k => G.iconst (0 : Int32) 11 rfl (by decide) k) ?_
      refine GL.g (fun _ k => G.istore [(4, .int 0), (3, .ref 128), (2, .ref 81), (1, .ref 0), (0, .ref scx)] 12 rfl (by decide) rfl k) ?_
      refine GL.g (fun _ k => G.sub (lv' := lvL (Int32.ofNat 0)) [4, 3, 2, 1, 0] rfl k) ?_
      exact law_loop hop hdn hL 65 0 (129, 382780) false _ _ (by omega) (by omega) (by decide) (by decide +kernel) (h0 _ _ hF0)
theorem arrOfT_of {s : State} {cA comp : ClassId} {kA : Class} {ty : FieldType} (h2 : s.vm.classes[cA]? = some kA) (h3 : kA.kind = .array comp ty) : ArrOfT s cA ty := fun n z => ⟨fun k h => (by cases h), kA, h2, comp, h3⟩
set_option maxRecDepth 100000 in
set_option maxHeartbeats 4000000 in
theorem whole_start {p : Program} {e : Env} {s : State} {m : MethodId} {below : List Frame} {meth : Method} {c : Code} (l : Launch) (htr : l.stackTraces = false) (hP : PureOk) {b L : Nat} {xs : Nat → Int32} (hL : L ≤ 320) (C0 : lw_At p s m meth c b L xs) (hnm : meth.name = "law") : W p l e room_1 s m #[Value.ref b] below meth c s.heap [] 0 0 (lw_Z below #[Value.ref b] s) (entryFrame m ([Value.ref b] : List Value).toArray 8) := by
  obtain ⟨hx, hb, hr, hml, hown, hts, hX, hbl, hlocks, hgv⟩ := C0
  have hA : ∀ a : Nat, a < s.heap.size → ¬ (fun q : Nat => s.heap.size ≤ q) a := fun a h => Nat.not_le.mpr h
  have hw : ∀ w ∈ wl, w.before #[Value.ref b] s = true := fun w h => hts w (List.mem_filter.mp h).1
  have hkn : ∀ k : Nat, ∃ (cC : ClassId) (iS : Nat → Nat), ∀ q : vw_C, cl_all[k]? = some q → u_Kn s q.1 q.2.1 q.2.2 cC iS := by
    intro k
    cases hk : cl_all[k]? with
    | none => exact ⟨0, fun _ => 0, fun q h => by cases h⟩
    | some q0 =>
      obtain ⟨cC, iS, h⟩ := u_known (n := q0.2.2) hw (cok hk).1 (hw _ (inst_ok hk))
      exact ⟨cC, iS, fun q h' => by cases h'; exact h⟩
  obtain ⟨dC, dI, hKc⟩ : ∃ (dC : Nat → ClassId) (dI : Nat → Nat → Nat), ∀ (k : Nat) (q : vw_C), cl_all[k]? = some q → u_Kn s q.1 q.2.1 q.2.2 (dC k) (dI k) :=
    ⟨fun k => Classical.choose (hkn k), fun k => Classical.choose (Classical.choose_spec (hkn k)), fun k => Classical.choose_spec (Classical.choose_spec (hkn k))⟩
  obtain ⟨c1, k1, p1, f1, g1, e1⟩ := Cond.arrayClass_spec (hw _ w_arr_int)
  obtain ⟨c2, k2, p2, f2, g2, e2⟩ := Cond.arrayClass_spec (hw _ w_arr_long)
  obtain ⟨c3, k3, p3, f3, g3, e3⟩ := Cond.arrayClass_spec (hw _ w_arr_byte)
  obtain ⟨c4, k4, p4, f4, g4, e4⟩ := Cond.arrayClass_spec (hw _ w_arr_char)
  obtain ⟨c5, k5, p5, f5, g5, e5⟩ := Cond.arrayClass_spec (hw _ w_arr_boolean)
  have hov : (Cond.arrayOver (.object RX2)).before #[Value.ref b] s = true := hts _ (by decide +kernel)
  obtain ⟨comp6, c6, k6, f6, -, g6, e6, n6⟩ := Cond.arrayOver_spec hov
  obtain ⟨gA, q1, q2, q3, q4, q5, q6⟩ : ∃ gA : Nat → ClassId, gA 1 = c1 ∧ gA 2 = c2 ∧ gA 3 = c3 ∧ gA 4 = c4 ∧ gA 5 = c5 ∧ gA 6 = c6 :=
    ⟨fun t => if t = 1 then c1 else if t = 2 then c2 else if t = 3 then c3 else if t = 4 then c4 else if t = 5 then c5 else c6, rfl, rfl, rfl, rfl, rfl, rfl⟩
  have hK : va_K (dC, dI) cl_all (tysO gA) s := by
    refine ⟨hKc, fun k q hq => ?_⟩
    match k, hq with
    | 0, hq => cases hq; exact ⟨by show ArrOfT s (gA 1) .int; rw [q1]; exact arrOfT_of g1 e1, by show s.vm.findClass _ = some (gA 1); rw [q1]; exact f1⟩
    | 1, hq => cases hq; exact ⟨by show ArrOfT s (gA 2) .long; rw [q2]; exact arrOfT_of g2 e2, by show s.vm.findClass _ = some (gA 2); rw [q2]; exact f2⟩
    | 2, hq => cases hq; exact ⟨by show ArrOfT s (gA 3) .byte; rw [q3]; exact arrOfT_of g3 e3, by show s.vm.findClass _ = some (gA 3); rw [q3]; exact f3⟩
    | 3, hq => cases hq; exact ⟨by show ArrOfT s (gA 4) .char; rw [q4]; exact arrOfT_of g4 e4, by show s.vm.findClass _ = some (gA 4); rw [q4]; exact f4⟩
    | 4, hq => cases hq; exact ⟨by show ArrOfT s (gA 5) .boolean; rw [q5]; exact arrOfT_of g5 e5, by show s.vm.findClass _ = some (gA 5); rw [q5]; exact f5⟩
    | 5, hq => cases hq; exact ⟨by show ArrOfT s (gA 6) (.object RX2); rw [q6]; exact arrOfT_of g6 e6, by show va_RA s (gA 6) (.object RX2); rw [q6]; exact ⟨k6, comp6, g6, e6, f6, n6⟩⟩
    | k + 6, hq => simp [tysO] at hq
  have hs := flat_of_before _ hgv
  obtain ⟨t, ht, hT⟩ := va_Tof (tm := .static "NinetyLamps$Flow" "SHARES" "[I") (ty := .int) (N := 12) (f := shf) (A := fun q : Nat => s.heap.size ≤ q) (by decide) (hs _ (by decide +kernel)) (va_eqt (hs (Cond.eq (.length (.static "NinetyLamps$Flow" "SHARES" "[I")) (.int 12)) (by decide +kernel))) (fun j hj => by
    match j, hj with
    | 0, _ => exact va_eqt (hs (Cond.eq (.elem (.static "NinetyLamps$Flow" "SHARES" "[I") (.int 0)) (.int 0)) (by decide +kernel))
    | 1, _ => exact va_eqt (hs (Cond.eq (.elem (.static "NinetyLamps$Flow" "SHARES" "[I") (.int 1)) (.int 27720)) (by decide +kernel))
    | 2, _ => exact va_eqt (hs (Cond.eq (.elem (.static "NinetyLamps$Flow" "SHARES" "[I") (.int 2)) (.int 13860)) (by decide +kernel))
    | 3, _ => exact va_eqt (hs (Cond.eq (.elem (.static "NinetyLamps$Flow" "SHARES" "[I") (.int 3)) (.int 9240)) (by decide +kernel))
    | 4, _ => exact va_eqt (hs (Cond.eq (.elem (.static "NinetyLamps$Flow" "SHARES" "[I") (.int 4)) (.int 6930)) (by decide +kernel))
    | 5, _ => exact va_eqt (hs (Cond.eq (.elem (.static "NinetyLamps$Flow" "SHARES" "[I") (.int 5)) (.int 5544)) (by decide +kernel))
    | 6, _ => exact va_eqt (hs (Cond.eq (.elem (.static "NinetyLamps$Flow" "SHARES" "[I") (.int 6)) (.int 4620)) (by decide +kernel))
    | 7, _ => exact va_eqt (hs (Cond.eq (.elem (.static "NinetyLamps$Flow" "SHARES" "[I") (.int 7)) (.int 3960)) (by decide +kernel))
    | 8, _ => exact va_eqt (hs (Cond.eq (.elem (.static "NinetyLamps$Flow" "SHARES" "[I") (.int 8)) (.int 3465)) (by decide +kernel))
    | 9, _ => exact va_eqt (hs (Cond.eq (.elem (.static "NinetyLamps$Flow" "SHARES" "[I") (.int 9)) (.int 3080)) (by decide +kernel))
    | 10, _ => exact va_eqt (hs (Cond.eq (.elem (.static "NinetyLamps$Flow" "SHARES" "[I") (.int 10)) (.int 2772)) (by decide +kernel))
    | 11, _ => exact va_eqt (hs (Cond.eq (.elem (.static "NinetyLamps$Flow" "SHARES" "[I") (.int 11)) (.int 2520)) (by decide +kernel))
    | j + 12, hj => exact absurd hj (by omega)) hA
  have hSh : Shs (fun q : Nat => s.heap.size ≤ q) t s := ⟨va_Zof (hts _ (by decide +kernel)) (hts _ (by decide +kernel)) ht hA, hT, vx_Zqof (hts _ (by decide +kernel)) (hts _ (by decide +kernel)) (hs _ (by decide +kernel)) hA, vx_Zqof (hts _ (by decide +kernel)) (hts _ (by decide +kernel)) (hs _ (by decide +kernel)) hA, va_AO.of hov⟩
  obtain ⟨ad, ha1, ha2⟩ : ∃ ad : Nat → Nat, ad shx = t ∧ ad scx = b := ⟨fun k => if k = shx then t else b, by simp, by simp [shx, scx]⟩
  have C : Cx mL_law p l s m #[Value.ref b] meth c (fun q => s.heap.size ≤ q) (dC, dI) gA (ad shx) := ⟨hx, hb, hr, hml, hown, hw, hK, fun _ h => h, hlocks, hnm, okL_law, by rw [ha1]; exact hSh, htr⟩
  have hl := lv_entry ([.ref b]) (n := 8) (Nat.le_of_ble_eq_true rfl)
  rw [lg_entry_eq]
  generalize (lg_sl ([.ref b]) ++ List.replicate (8 - (lg_sl ([.ref b])).length) Slot.unset).toArray = ls at hl ⊢
  refine law_start (L := L) (xs := xs) hL hP p l e s m #[Value.ref b] below meth c _ (dC, dI) gA s.heap [] ls ad C (by rw [ha2]; exact hX) (by rw [ha2]; exact hbl) ⟨fun k q h => by simp [wsO] at h, ⟨fun i j p q h => by simp [wsO] at h, fun k q h => by simp [wsO] at h⟩, va_S.rf⟩ (by show lv_has ls 8 [(0, .ref (ad scx))]; rw [ha2]; exact hl) ?_
  intro cs' pc' lv' st' h' H' locs' ls' ad' he hr'
  obtain ⟨rfl, rfl, h1, h2⟩ := he
  refine va_forget (fun q hq => hr'.2.2.2.2 q hq) ?_
  refine W.widen (k := 399528) (n := 7902896) h1 h2 ?_
  exact lw_ret hx hb hr hlocks (okL_law.at (i := 1042) rfl)
set_option maxHeartbeats 4000000 in
theorem lw_walk (l : Launch) (htr : l.stackTraces = false) (hPo : PureOk) (b : Addr) (xs : List Int32) : MetFree l x (headSpec (Jvm.Cond.code x code maxLocals ret :: tables_1) room_1) (lw_P b xs) (fun _ _ _ _ _ => True) lw_Q := by
  refine MetFree.of_bodyS (code := code) (maxLocals := maxLocals) (ret := ret) (by decide) ?_ ?_
  · intro args s m h hn
    obtain ⟨meth, c, h1, h2, h3, h4, h5, h6, -, -⟩ := Cond.code_spec hn (atoms_spec (ws := Jvm.Cond.code x code maxLocals ret :: tables_1) h _ List.mem_cons_self)
    exact ⟨meth, c, h1, h2, h3, h4, h5, h6⟩
  · intro p e s m args below meth c s₁ B hml0 hP _
    obtain ⟨rfl, hx, hbd, hgv⟩ := hP
    obtain ⟨scr, harrAt, hlist, hof, hsmall⟩ := hx
    obtain ⟨hcb, hkn, -, -⟩ := State.arrayAt?_spec harrAt
    have hown : s.vm.findClass R_law = some m.cls := findClass_of_methodNamed B.named
    have hts0 : ∀ c ∈ (Jvm.Cond.code x code maxLocals ret :: tables_1), c.before #[Value.ref b] s = true := atoms_spec (ws := Jvm.Cond.code x code maxLocals ret :: tables_1) B.pre
    have hts : ∀ w ∈ lw_tbl, w.before #[Value.ref b] s = true := k2_hts_sels lw_privs (fun w hw => hts0 w (List.mem_cons_of_mem _ hw)) lw_privs_ok
    have hml : c.maxLocals = 8 := B.maxLocals_eq (hts0 _ List.mem_cons_self)
    have X₀ : Stand p l e room_1 s m #[Value.ref b] below meth c s₁ [] 0 0 := Stand.of_body B
    have hh0 : s₁.heap = s.heap := by rw [B.state]; rfl
    have hsz : scr.slots.size = xs.length := by rw [← Array.length_toList, hlist, List.length_map]
    have hval : ∀ j : Nat, j < xs.length → scr.slots[j]? = some (.int (xs.getD j 0)) := fun j hj => by
      rw [← Array.getElem?_toList, hlist]
      simp [hj]
    have hbl : b < s.heap.size := (Array.getElem?_eq_some_iff.mp hcb).1
    have hX : va_X b xs.length (fun j => xs.getD j 0) s s.heap := ⟨scr, hcb, hof, hkn, hsz, hval⟩
    have K : W p l e room_1 s m #[Value.ref b] below meth c s₁.heap [] 0 0 (lw_Z below #[Value.ref b] s) (entryFrame m ([Value.ref b] : List Value).toArray 8) := by
      rw [hh0]
      exact whole_start l htr hPo hbd ⟨B.exec, B.bytes, B.returns, hml, hown, hts, hX, hbl, B.notSynchronized, hgv⟩ (name_of_methodNamed B.named B.method).1
    obtain ⟨t, a1, o, b1, b2, b3⟩ := K s₁ rfl X₀
    exact ⟨t, o, a1, b1, b2, b3⟩
theorem lw_pre_spec {args : Array Value} {s : State} (h : (Jvm.Cond.and given_1 narrow_1).before args s = true) (hr : rest_1_c.before args s = true) : ∃ (b : Addr) (xs : List Int32), lw_P b xs args s := by
  have hs := flat_of_before _ h
  have hq := flat_of_before _ hr
  have hc : (Cond.count 1).before args s = true := hs _ (by decide +kernel)
  have harr : (Cond.arrayOf (.arg 0) .int).before args s = true := hs _ (by decide +kernel)
  have hle : (Cond.le (.length (.arg 0)) (.int 320)).before args s = true := hs _ (by decide +kernel)
  have hlen : (Cond.isInt (.length (.arg 0))).before args s = true := hq _ (by decide +kernel)
  have hall : (Cond.all (.arg 0) (.isInt (.elem (.arg 0) (.index 0)))).before args s = true := hq _ (by decide +kernel)
  obtain ⟨b, xs, hb, hx⟩ := State.ints_of_pre rfl harr hlen hall
  have hsm : xs.length < 2 ^ 31 := hx.choose_spec.2.2.2
  have hev : (Term.length (.arg 0)).eval args s none [] s = some (.int xs.length.toInt32) := hx.length_eval hb
  have hv := Cond.le_ints hev (show (Term.int 320).eval args s none [] s = some (.int 320) from rfl)
  have hd : xs.length.toInt32 ≤ 320 := by
    simpa [Cond.before, Cond.holds, hv] using hle
  have hN : xs.length ≤ 320 := (Int32.ofNat_le_ofNat hsm (by decide)).mp (show Int32.ofNat xs.length ≤ Int32.ofNat 320 from hd)
  exact ⟨b, xs, Cond.one_arg hc (show args[0]? = some (.ref b) from hb), hx, hN, h⟩
theorem lw_comes (l : Launch) (htr : l.stackTraces = false) (hPo : PureOk) : Comes l x (Jvm.Cond.code x code maxLocals ret :: tables_1) room_1 (fun tb e args s => Calls_1 tb e args s ∧ rest_1 tb e args s ∧ Pre_1 tb e args s)
    (fun _ _ args s o t => lw_Q args s o t) := by
  intro p e ha hc hk s m args below hf hfit hheap happ hpre
  obtain ⟨b, xs, hP⟩ := lw_pre_spec hpre.2.2 hpre.2.1
  obtain ⟨k, o, h1, h2, h3, hQ⟩ := lw_walk l htr hPo b xs p e ha hc hk s m args below hf ((Spec.applies_iff_loose hf).mp happ).1 hP trivial
  exact ⟨k, o, h1, h2, h3, hQ⟩
theorem lw_frame {s t : State} {o : Outcome} {args : Array Value} (h : Framed s o t [] 399528 7902896) :
    Framed s o t (fieldLocs frame_1_writes args s ++ arrayLocs frame_1_arrays args s ++ staticLocs frame_1_statics s) 399528 7902896 := h
theorem lw_limb (hPo : PureOk) (L : Cond) (hL : ∀ (args : Array Value) (s t : State), L.after args s (.returned (some (.int 1))) t = true) :
    ArmFor flags0 classFile x code maxLocals ret World_1 tables_1 room_1 Calls_1 rest_1 Pre_1
      (fun tb e a s o t => postC L tb e a s o t ∧ Framed s o t (fieldLocs frame_1_writes a s ++ arrayLocs frame_1_arrays a s ++ staticLocs frame_1_statics s) 399528 7902896) := by
  intro l hfl _ _ p e ha hc hk s m args below hf hfit hheap happ hpre
  obtain ⟨k, o, h1, h2, h3, rfl, hF⟩ := lw_comes l (by unfold Launch.stackTraces; rw [hfl]; decide) hPo p e ha hc hk s m args below hf hfit hheap happ hpre
  exact ⟨k, _, h1, h2, h3, hL args s _, lw_frame hF⟩
theorem i_vc_open (hPo : PureOk) : Claimed_1_1 ∧ Claimed_1_2 := ⟨lw_limb hPo limb_1_1 (fun args s t => by simp [limb_1_1, Cond.after, Cond.holds, Cond.value]), lw_limb hPo limb_1_2 (fun args s t => Cond.after_iff.mpr (by
  first | (rw [show limb_1_2 = Cond.eq .result (.int 1) from rfl, Cond.eq_ints (x := 1) (y := 1) rfl rfl]; simp; done) | (simp [limb_1_2, Cond.value, Term.eval]; done)))⟩

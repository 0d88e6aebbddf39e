/-! X: S with any exits; methods that throw; the law's helpers that catch -/
def X {ρ : Type} (eo : ρ → Ex) (M : MD) (R : Room) (cs : Nat × Nat) (pc : Nat) (lv : Lv) (st : List Value) (h : Hp) (f : Option ρ) : Prop := ∀ r, f = some r → G M R (eo r) cs pc lv st h
section XR
variable {ρ : Type} {eo : ρ → Ex} {M : MD} {R : Room} {cs : Nat × Nat} {pc : Nat} {lv : Lv} {st : List Value} {h : Hp} {Z : List Kd} {I : HI} {J : HJ} {f : Option ρ}
theorem X.sub {lv' : Lv} (ks : List Nat) (hl' : lv_pick lv ks = lv') (k : X eo M R cs pc lv' st h f) : X eo M R cs pc lv st h f := fun r9 hf9 => G.sub ks hl' (k r9 hf9)
theorem X.ite {c : Prop} [Decidable c] {f1 f2 : Option ρ} (kt : c → X eo M R cs pc lv st h f1) (kf : ¬ c → X eo M R cs pc lv st h f2) : X eo M R cs pc lv st h (if c then f1 else f2) := by
  by_cases hc : c
  · rw [if_pos hc]; exact kt hc
  · rw [if_neg hc]; exact kf hc
theorem X.none : X eo M R cs pc lv st h (Option.none : Option ρ) := fun r hf => by cases hf
theorem X.gbx {x : Int32} {n : Nat} (k : vp_in x n → X eo M R cs pc lv st h f) : X eo M R cs pc lv st h (bx x n f) := X.ite (fun _ => X.none) k
theorem X.nmi {x : Int32} {F : Int32 → Option ρ} (k : ∀ x : Int32, X eo M R cs pc lv (.int x :: st) h (F x)) : X eo M R cs pc lv (.int x :: st) h (lb x F) := k x
theorem X.iload_n {a : Fin 4} {x : Int32} (i j : Nat) (hi : M.2.2.2.2[i]? = some (pc, .iload_n a, 1)) (hj : lv[j]? = some ((a : Nat), .int x)) (k : X eo M R cs (pc + 1) lv (.int x :: st) h f) : X eo M R cs pc lv st h f := fun r9 hf9 => G.iload_n i j hi hj (k r9 hf9)
theorem X.aload_n {a : Fin 4} {x : Nat} (i j : Nat) (hi : M.2.2.2.2[i]? = some (pc, .aload_n a, 1)) (hj : lv[j]? = some ((a : Nat), .ref x)) (k : X eo M R cs (pc + 1) lv (.ref x :: st) h f) : X eo M R cs pc lv st h f := fun r9 hf9 => G.aload_n i j hi hj (k r9 hf9)
theorem X.getR {idx ci j o r : Nat} {rs : List Nat} (i : Nat) (hi : M.2.2.2.2[i]? = some (pc, .getfield idx, 3)) (hf : FOk M.1.cls idx ci j) (hz : Z[o]? = some (0, ci, rs)) (ht : fk (ctyp ci j) = 2) (hr : rs.getD j 0 = r + 1) (k : X eo M R cs (pc + 3) lv (.ref r :: st) (Z, I, J) f) : X eo M R cs pc lv (.ref o :: st) (Z, I, J) f := fun r9 hf9 => G.getR i hi hf hz ht hr (k r9 hf9)
theorem X.getI {idx ci j o : Nat} {rs : List Nat} (i : Nat) (hi : M.2.2.2.2[i]? = some (pc, .getfield idx, 3)) (hf : FOk M.1.cls idx ci j) (hz : Z[o]? = some (0, ci, rs)) (ht : fk (ctyp ci j) = 0) (k : X eo M R cs (pc + 3) lv (.int (I o j) :: st) (Z, I, J) f) : X eo M R cs pc lv (.ref o :: st) (Z, I, J) f := fun r9 hf9 => G.getI i hi hf hz ht (k r9 hf9)
theorem X.iald {o n : Nat} {rs : List Nat} {x : Int32} (i : Nat) (hi : M.2.2.2.2[i]? = some (pc, .iaload, 1)) (hz : Z[o]? = some (1, n, rs)) (k : X eo M R cs (pc + 1) lv (.int (I o x.toNatClampNeg) :: st) (Z, I, J) f) : X eo M R cs pc lv (.int x :: .ref o :: st) (Z, I, J) (bx x n f) := X.gbx fun hin => fun r9 hf9 => G.iald i hi hz hin (k r9 hf9)
theorem X.lald {o n : Nat} {rs : List Nat} {x : Int32} (i : Nat) (hi : M.2.2.2.2[i]? = some (pc, .laload, 1)) (hz : Z[o]? = some (2, n, rs)) (k : X eo M R cs (pc + 1) lv (.long (J o x.toNatClampNeg) :: st) (Z, I, J) f) : X eo M R cs pc lv (.int x :: .ref o :: st) (Z, I, J) (bx x n f) := X.gbx fun hin => fun r9 hf9 => G.lald i hi hz hin (k r9 hf9)
theorem X.if_eq {f1 f2 : Option ρ} {x : Int32} {off : Int} (tgt : Nat) (i : Nat) (hi : M.2.2.2.2[i]? = some (pc, .ifCond .eq off, 3)) (ht : (pc : Int) + off = (tgt : Int)) (kt : x = 0 → X eo M R cs tgt lv st h f1) (kf : ¬ x = 0 → X eo M R cs (pc + 3) lv st h f2) : X eo M R cs pc lv (.int x :: st) h (if x = 0 then f1 else f2) := by
  intro r hf
  refine G.if_eq tgt i hi ht (fun q => ?_) (fun q => ?_)
  · rw [if_pos q] at hf; exact kt q r hf
  · rw [if_neg q] at hf; exact kf q r hf
theorem X.if_ne {f1 f2 : Option ρ} {x : Int32} {off : Int} (tgt : Nat) (i : Nat) (hi : M.2.2.2.2[i]? = some (pc, .ifCond .ne off, 3)) (ht : (pc : Int) + off = (tgt : Int)) (kt : ¬ x = 0 → X eo M R cs tgt lv st h f1) (kf : x = 0 → X eo M R cs (pc + 3) lv st h f2) : X eo M R cs pc lv (.int x :: st) h (if x = 0 then f2 else f1) := by
  intro r hf
  refine G.if_ne tgt i hi ht (fun q => ?_) (fun q => ?_)
  · rw [if_neg q] at hf; exact kt q r hf
  · rw [if_pos q] at hf; exact kf q r hf
theorem X.if_lt {f1 f2 : Option ρ} {x : Int32} {off : Int} (tgt : Nat) (i : Nat) (hi : M.2.2.2.2[i]? = some (pc, .ifCond .lt off, 3)) (ht : (pc : Int) + off = (tgt : Int)) (kt : x < 0 → X eo M R cs tgt lv st h f1) (kf : ¬ x < 0 → X eo M R cs (pc + 3) lv st h f2) : X eo M R cs pc lv (.int x :: st) h (if x < 0 then f1 else f2) := by
  intro r hf
  refine G.if_lt tgt i hi ht (fun q => ?_) (fun q => ?_)
  · rw [if_pos q] at hf; exact kt q r hf
  · rw [if_neg q] at hf; exact kf q r hf
theorem X.icmp_le {f1 f2 : Option ρ} {x y : Int32} {off : Int} (tgt : Nat) (i : Nat) (hi : M.2.2.2.2[i]? = some (pc, .if_icmp .le off, 3)) (ht : (pc : Int) + off = (tgt : Int)) (kt : x ≤ y → X eo M R cs tgt lv st h f1) (kf : ¬ x ≤ y → X eo M R cs (pc + 3) lv st h f2) : X eo M R cs pc lv (.int y :: .int x :: st) h (if x ≤ y then f1 else f2) := by
  intro r hf
  refine G.icmp_le tgt i hi ht (fun q => ?_) (fun q => ?_)
  · rw [if_pos q] at hf; exact kt q r hf
  · rw [if_neg q] at hf; exact kf q r hf
theorem X.icmp_lt {f1 f2 : Option ρ} {x y : Int32} {off : Int} (tgt : Nat) (i : Nat) (hi : M.2.2.2.2[i]? = some (pc, .if_icmp .lt off, 3)) (ht : (pc : Int) + off = (tgt : Int)) (kt : x < y → X eo M R cs tgt lv st h f1) (kf : ¬ x < y → X eo M R cs (pc + 3) lv st h f2) : X eo M R cs pc lv (.int y :: .int x :: st) h (if x < y then f1 else f2) := by
  intro r hf
  refine G.icmp_lt tgt i hi ht (fun q => ?_) (fun q => ?_)
  · rw [if_pos q] at hf; exact kt q r hf
  · rw [if_neg q] at hf; exact kf q r hf
theorem X.icmp_ne {f1 f2 : Option ρ} {x y : Int32} {off : Int} (tgt : Nat) (i : Nat) (hi : M.2.2.2.2[i]? = some (pc, .if_icmp .ne off, 3)) (ht : (pc : Int) + off = (tgt : Int)) (kt : ¬ x = y → X eo M R cs tgt lv st h f1) (kf : x = y → X eo M R cs (pc + 3) lv st h f2) : X eo M R cs pc lv (.int y :: .int x :: st) h (if x = y then f2 else f1) := by
  intro r hf
  refine G.icmp_ne tgt i hi ht (fun q => ?_) (fun q => ?_)
  · rw [if_neg q] at hf; exact kt q r hf
  · rw [if_pos q] at hf; exact kf q r hf
theorem X.goto {off : Int} (tgt : Nat) (i : Nat) (hi : M.2.2.2.2[i]? = some (pc, .goto off, 3)) (ht' : (pc : Int) + off = (tgt : Int)) (k : X eo M R cs tgt lv st h f) : X eo M R cs pc lv st h f := fun r9 hf9 => G.goto tgt i hi ht' (k r9 hf9)
theorem X.iconst {n : Int} (v : Int32) (i : Nat) (hi : M.2.2.2.2[i]? = some (pc, .iconst n, 1)) (hv : Int32.ofInt n = v) (k : X eo M R cs (pc + 1) lv (.int v :: st) h f) : X eo M R cs pc lv (st) h f := fun r9 hf9 => G.iconst v i hi hv (k r9 hf9)
theorem X.callV {τ : Type} {fn : Fin' τ} {fc : Option τ} {F : τ → Option ρ} {idx n d mc' ms' b ci : Nat} {M' : MD} {av rs : List Value} {rr : List Nat} (i : Nat) (hi : M.2.2.2.2[i]? = some (pc, .invokevirtual idx, 3)) (ho : VOk M.1.cls idx M' n) (hn : av.length = n) (hrs : av.reverse = rs) {qc : vw_C} (hq : cl_all[ci]? = some qc) (hqc : qc.1 = M'.1.cls) (hz : h.1[b]? = some (0, ci, rr)) (hR : rOk R cs M' d mc' ms' st) (hM : CM M' d mc' ms' (.ref b :: av) h fn fc) (hv : vld h.1.length lv st = true ∨ ∀ r, (fn r).2.1.length = h.1.length)
    (k : ∀ r, X eo M R (cs.1 + mc', cs.2 + ms') (pc + 3) lv ((fn r).1.toList ++ st) (fn r).2 (F r)) : X eo M R cs pc lv (rs ++ .ref b :: st) h (fc.bind F) := by
  intro r hf
  cases hc : fc with
  | none => rw [hc] at hf; cases hf
  | some q =>
    rw [hc] at hf
    refine G.callV i hi ho hn hrs hq hqc hz hR (hM q hc) (hv.imp id (fun z v h' e => ?_)) (fun v h' e => ?_)
    · have e2 : h' = (fn q).2 := congrArg Prod.snd e
      rw [e2]; exact z q
    · have e1 : v = (fn q).1 := congrArg Prod.fst e
      have e2 : h' = (fn q).2 := congrArg Prod.snd e
      rw [e1, e2]; exact k q r hf
theorem X.qVI {fc : Option Int32} {F : Int32 → Option ρ} {idx n d b ci : Nat} {M' : MD} {av rs : List Value} {rr : List Nat} (i : Nat) (hi : M.2.2.2.2[i]? = some (pc, .invokevirtual idx, 3)) (ho : VOk M.1.cls idx M' n) (hn : av.length = n) (hrs : av.reverse = rs) {qc : vw_C} (hq : cl_all[ci]? = some qc) (hqc : qc.1 = M'.1.cls) (hz : h.1[b]? = some (0, ci, rr)) (hR : rOk R cs M' d 0 0 st) (hM : CM M' d 0 0 (.ref b :: av) h (pI h) fc) (k : ∀ (r : Int32), X eo M R cs (pc + 3) lv (.int r :: st) h (F r)) : X eo M R cs pc lv (rs ++ .ref b :: st) h (cp fc F) := X.callV i hi ho hn hrs hq hqc hz hR hM (Or.inr fun _ => rfl) (fun q => k q)
theorem X.join {α : Type} {j : α} {F : α → Option ρ} (k : X eo M R cs pc lv st h (F j)) : X eo M R cs pc lv st h (lb j F) := k
end XR
def nse : String := "java/util/NoSuchElementException"
/-- the exits of a method that may throw at tp: r none where it throws -/
def RtX (M : MD) (tp : Nat) (h : Hp) (r : Option Value) : Ex := fun cs pc lv st g => (r.isSome = true ∧ Rt M 1 6 (fun w g' => w = r ∧ g' = h) cs pc lv st g) ∨ (r = none ∧ cs = (0, 0) ∧ pc = tp ∧ st = [] ∧ g = h)
def XMt (M : MD) (d : Nat) (av : List Value) (h : Hp) (r : Option Value) : Prop := ∀ (l : Launch) (D : va_G) (gA : Nat → ClassId) (ad : Nat → Nat) (sz : Nat), l.stackTraces = false →
  vx_Met l M.1 [cdw M] (rmd d 1 6) (va_Pc (av.map (cv ad)) (Pm D gA ad sz h)) (Qm D gA ad sz h (fun v g => v = r ∧ r.isSome = true ∧ g = h)) (fun E st t => r = none ∧ E = nse ∧ va_P D cl_all (wsO gA ad h) t.heap ∧ va_F (va_A (wsO gA ad h) sz) st t) 1 6 (va_A (wsO gA ad h) sz)
def nseNames : List String := ["java/lang/RuntimeException", "java/lang/Exception"]
set_option maxRecDepth 100000 in
theorem nse_hat : ∀ w ∈ vx_at0 RX11 141 nse nseNames, w ∈ wl := by
  have h : ((vx_at0 RX11 141 nse nseNames).all (fun w => decide (w ∈ lw_tbl) && qw w)) = true := by decide +kernel
  intro w hw
  have h1 := List.all_eq_true.mp h w hw
  simp only [Bool.and_eq_true, decide_eq_true_eq] at h1
  exact List.mem_filter.mpr h1
set_option maxRecDepth 100000 in
theorem nse_good : ∀ w ∈ Cond.classLink RX11 139 nse :: Cond.initialized nse :: vx_at0 RX11 141 nse nseNames, vx_ot w = true := by
  have h : ((Cond.classLink RX11 139 nse :: Cond.initialized nse :: vx_at0 RX11 141 nse nseNames).all vx_ot) = true := by decide +kernel
  exact fun w hw => List.all_eq_true.mp h w hw
theorem nse_cl : Cond.classLink RX11 139 nse ∈ wl := by
  have h : decide (Cond.classLink RX11 139 nse ∈ lw_tbl) = true := by decide +kernel
  exact List.mem_filter.mpr ⟨of_decide_eq_true h, rfl⟩
theorem nse_in : Cond.initialized nse ∈ wl := by
  have h : decide (Cond.initialized nse ∈ lw_tbl) = true := by decide +kernel
  exact List.mem_filter.mpr ⟨of_decide_eq_true h, rfl⟩
theorem nse_ca : Cond.castable nse nse ∈ wl := by
  have h : decide (Cond.castable nse nse ∈ lw_tbl) = true := by decide +kernel
  exact List.mem_filter.mpr ⟨of_decide_eq_true h, rfl⟩
theorem nse_lk : Cond.classLink RL 13 nse ∈ wl := by
  have h : decide (Cond.classLink RL 13 nse ∈ lw_tbl) = true := by decide +kernel
  exact List.mem_filter.mpr ⟨of_decide_eq_true h, rfl⟩
theorem XMt.of {M : MD} {d : Nat} {av : List Value} {h : Hp} {r : Option Value} (tp i : Nat) (hcls : M.1.cls = RX11) (hok : MOk M) (hpl : plainName M.1.cls = true) (hlen : (lg_sl av).length ≤ M.2.2.1) (hd : 6 ≤ d) (h0 : M.2.2.2.2[i]? = some (tp, .new 139, 3)) (h3 : M.2.2.2.2[i + 1]? = some (tp + 3, .dup, 1)) (h4 : M.2.2.2.2[i + 2]? = some (tp + 4, .invokespecial 141, 3)) (h7 : M.2.2.2.2[i + 3]? = some (tp + 7, .athrow, 1))
    (g : G M (rmd d 1 6) (RtX M tp h r) (0, 0) 0 (lv_args 0 av) [] h) : XMt M d av h r := by
  intro l D gA ad sz htr
  refine vx_ofW (cc := M.2.1) (maxL := M.2.2.1) (ret := M.2.2.2.1) (ws' := []) hpl rfl ?_
  intro p e s m args below meth c s₁ B hml hno hv
  obtain ⟨rfl, hsz, hw, hK, hP, hD, hS⟩ := hv
  subst hsz
  have hlk : meth.locks = false := B.notSynchronized
  have C : Cx M p l s m (av.map (cv ad)).toArray meth c (va_A (wsO gA ad h) s.heap.size) D gA (ad shx) := ⟨B.exec, B.bytes, B.returns, hml, findClass_of_methodNamed B.named, fun w h9 => wl_warm (State.WarmedH.refl s) h9 (hw w h9), hK, fun q hq => Or.inr hq, hlk, (name_of_methodNamed B.named B.method).1, hok, hS, htr⟩
  have hl := lv_entry (av.map (cv ad)) (n := M.2.2.1) (by rw [lg_sl_m]; exact hlen)
  rw [lg_entry_eq]
  rw [lv_args_m] at hl
  refine g p l e s m _ below meth c _ _ D gA s.heap [] _ ad C ⟨hP, hD.self, va_S.rf⟩ hl ?_
  intro cs' pc' lv' st' h' H' locs' ls' ad' hE hx hr' hl'
  have hf : ∀ q ∈ locs', va_A (wsO gA ad h) s.heap.size q.base := hr'.2.2.2.2
  rcases hE with ⟨hs, h1, h2, i9, hE⟩ | ⟨hrn, rfl, rfl, rfl, rfl⟩
  · refine vx_ret ?_
    refine W.widen (k := 1) (n := 6) h1 h2 ?_
    rcases hE with ⟨hi, hret, rfl, hq⟩ | ⟨ty, v, hi, hret, hn, rfl, hq⟩ | ⟨v, hi, hret, rfl, hq⟩
    · exact W.vret B.exec B.bytes (B.returns.trans hret) (fun t ht hW => ⟨⟨none, h', ad', rfl, ⟨hq.1, hs, hq.2⟩, hx, by rw [ht]; exact hr'.1, hr'.2.1⟩, hr'.2.2.F ht⟩) hf (hok.at hi) hlk
    · exact W.zret B.exec B.bytes (B.returns.trans hret) hn (fun t ht hW => ⟨⟨some (.int v), h', ad', rfl, ⟨hq.1, hs, hq.2⟩, hx, by rw [ht]; exact hr'.1, hr'.2.1⟩, hr'.2.2.F ht⟩) hf (hok.at hi) hlk
    · exact W.lret B.exec B.bytes (B.returns.trans hret) (fun t ht hW => ⟨⟨some (.long v), h', ad', rfl, ⟨hq.1, hs, hq.2⟩, hx, by rw [ht]; exact hr'.1, hr'.2.1⟩, hr'.2.2.F ht⟩) hf (hok.at hi) hlk
  · have had : ad' = ad := hx.2.2 rfl
    subst had
    have hown : s.vm.findClass RX11 = some m.cls := by rw [← hcls]; exact C.own
    refine vx_throw0 (names := nseNames) (cls := nse) (own := RX11) (ik := 139) (ic := 141) B.exec B.bytes htr hown (by decide +kernel) (by decide +kernel) (C.ts _ nse_cl) (C.ts _ nse_in) (fun w hw => C.ts w (nse_hat w hw)) nse_good hS.2.2.1 hS.2.2.2.1 hr'.2.2 (by rw [hml]; exact hl'.1) (hok.at h0) (hok.at h3) (hok.at h4) (hok.at h7) (fun x hx => (hno x hx).elim) (by show 2 + 3 < d; omega) (by show 0 + (13 * (2 + 1) + 42) ≤ 64 * d; omega) (Nat.le_refl _) (Nat.le_refl _) hlk ?_ hf (Nat.le_refl _) (Nat.le_refl _)
    intro t _ hsz hk
    refine ⟨hrn, rfl, hr'.1.kept (fun k q hq => hk _ ((hr'.1 k q hq).lt)), Nat.le_trans hr'.2.2.1 hsz, fun q h1 h2 => ?_⟩
    rw [hk q (Nat.lt_of_lt_of_le h1 hr'.2.2.1)]
    exact hr'.2.2.2.1 q h1 h2
theorem X.ire {M : MD} {R : Room} {tp pc : Nat} {lv : Lv} {h : Hp} {v : Int32} {em : Int32 → Value} (i : Nat) (hi : M.2.2.2.2[i]? = some (pc, .ireturn, 1)) (hr : M.2.2.2.1 = some .int) : X (fun r : Option Int32 => RtX M tp h (r.map (fun v => Value.int v))) M R (0, 0) pc lv [.int v] h (some (some v)) := by
  intro r hr'
  cases hr'
  exact G.exit (Or.inl ⟨rfl, Nat.zero_le _, Nat.zero_le _, i, Or.inr (Or.inl ⟨.int, v, hi, hr, rfl, rfl, rfl, rfl⟩)⟩)
theorem X.lre {M : MD} {R : Room} {tp pc : Nat} {lv : Lv} {h : Hp} {v : Int64} (i : Nat) (hi : M.2.2.2.2[i]? = some (pc, .lreturn, 1)) (hr : M.2.2.2.1 = some .long) : X (fun r : Option Int64 => RtX M tp h (r.map (fun v => Value.long v))) M R (0, 0) pc lv [.long v] h (some (some v)) := by
  intro r hr'
  cases hr'
  exact G.exit (Or.inl ⟨rfl, Nat.zero_le _, Nat.zero_le _, i, Or.inr (Or.inr ⟨v, hi, hr, rfl, rfl, rfl⟩)⟩)
theorem X.thI {M : MD} {R : Room} {tp : Nat} {lv : Lv} {h : Hp} : X (fun r : Option Int32 => RtX M tp h (r.map (fun v => Value.int v))) M R (0, 0) tp lv [] h (some Option.none) := by
  intro r hr'
  cases hr'
  exact G.exit (Or.inr ⟨rfl, rfl, rfl, rfl, rfl⟩)
theorem X.thL {M : MD} {R : Room} {tp : Nat} {lv : Lv} {h : Hp} : X (fun r : Option Int64 => RtX M tp h (r.map (fun v => Value.long v))) M R (0, 0) tp lv [] h (some Option.none) := by
  intro r hr'
  cases hr'
  exact G.exit (Or.inr ⟨rfl, rfl, rfl, rfl, rfl⟩)
def F_X11_lamp (l1 : Int32) (l2 : Int32) (I : HI) (J : HJ) : Option (Option Int32) :=
  cp (F_X0_hasLamp l1 I J) fun r1 =>
  if r1 = 0 then
    some none
  else
    if l2 < 0 then
      some none
    else
      if l2 ≤ (2 : Int32) then
        if l2 = 0 then
          bx l1 64 <|
          some (some (I x_board_from (Int32.toNatClampNeg l1)))
        else
          if l2 = (1 : Int32) then
            bx l1 64 <|
            some (some (I x_board_goal (Int32.toNatClampNeg l1)))
          else
            bx l1 64 <|
            some (some (I x_board_volts (Int32.toNatClampNeg l1)))
      else
        some none
set_option maxRecDepth 100000 in
theorem xg_X11_lamp (b : Bool) (l1 : Int32) (l2 : Int32) (I : HI) (J : HJ) : X (fun r : Option Int32 => RtX mX11_lamp 20 (zs b, I, J) (r.map (fun v => Value.int v))) mX11_lamp (rmd 7 1 6) (0, 0) 0 [(0, .ref 0), (1, .int l1), (2, .int l2)] [] (zs b, I, J) (F_X11_lamp l1 l2 I J) := by
  unfold F_X11_lamp
  refine X.aload_n 0 0 rfl rfl ?_
  refine X.getR 1 rfl fo_X11_10 rfl rfl rfl ?_
  refine X.iload_n 2 1 rfl rfl ?_
  refine X.qVI (d := 1) (av := [.int l1]) (rs := [.int l1]) (b := 1) 3 rfl co_X11_136 rfl rfl rfl rfl rfl ⟨⟨Nat.le_of_ble_eq_true rfl, Nat.le_of_ble_eq_true rfl⟩, ⟨Nat.le_of_ble_eq_true rfl, Nat.le_of_ble_eq_true rfl⟩, Nat.le_of_ble_eq_true rfl⟩ (cm_X0_hasLamp b l1 I J) (fun r1 => ?_)
  refine X.if_eq 20 4 rfl (by decide) (fun _ => ?_) (fun _ => ?_)
  · exact X.thI
  · refine X.iload_n 5 2 rfl rfl ?_
    refine X.if_lt 20 6 rfl (by decide) (fun _ => ?_) (fun _ => ?_)
    · exact X.thI
    · refine X.iload_n 7 2 rfl rfl ?_
      refine X.iconst (2 : Int32) 8 rfl (by decide) ?_
      refine X.icmp_le 28 9 rfl (by decide) (fun _ => ?_) (fun _ => ?_)
      · refine X.iload_n 14 2 rfl rfl ?_
        refine X.if_ne 42 15 rfl (by decide) (fun _ => ?_) (fun _ => ?_)
        · refine X.iload_n 22 2 rfl rfl ?_
          refine X.iconst (1 : Int32) 23 rfl (by decide) ?_
          refine X.icmp_ne 59 24 rfl (by decide) (fun _ => ?_) (fun _ => ?_)
          · refine X.aload_n 31 0 rfl rfl ?_
            refine X.getR 32 rfl fo_X11_10 rfl rfl rfl ?_
            refine X.getR 33 rfl fo_X11_149 rfl rfl rfl ?_
            refine X.iload_n 34 1 rfl rfl ?_
            refine X.iald 35 rfl rfl ?_
            exact X.ire (em := Value.int) 36 rfl rfl
          · refine X.aload_n 25 0 rfl rfl ?_
            refine X.getR 26 rfl fo_X11_10 rfl rfl rfl ?_
            refine X.getR 27 rfl fo_X11_146 rfl rfl rfl ?_
            refine X.iload_n 28 1 rfl rfl ?_
            refine X.iald 29 rfl rfl ?_
            refine X.goto 68 30 rfl (by decide) ?_
            exact X.ire (em := Value.int) 36 rfl rfl
        · refine X.aload_n 16 0 rfl rfl ?_
          refine X.getR 17 rfl fo_X11_10 rfl rfl rfl ?_
          refine X.getR 18 rfl fo_X11_142 rfl rfl rfl ?_
          refine X.iload_n 19 1 rfl rfl ?_
          refine X.iald 20 rfl rfl ?_
          exact X.ire (em := Value.int) 21 rfl rfl
      · exact X.thI
theorem xm_X11_lamp (b : Bool) (l1 : Int32) (l2 : Int32) (I : HI) (J : HJ) (r : Option Int32) (hr : F_X11_lamp l1 l2 I J = some r) : XMt mX11_lamp 7 [.ref 0, .int l1, .int l2] (zs b, I, J) (r.map (fun v => Value.int v)) :=
  XMt.of 20 10 rfl okX11_lamp pn_X11 (Nat.le_of_ble_eq_true rfl) (by decide) rfl rfl rfl rfl (xg_X11_lamp b l1 l2 I J r hr)
def F_X11_fault (l1 : Int32) (l2 : Int32) (I : HI) (J : HJ) : Option (Option Int32) :=
  cp (F_X7_has l1 I J) fun r1 =>
  if r1 = 0 then
    some none
  else
    if l2 < 0 then
      some none
    else
      if l2 ≤ (2 : Int32) then
        if l2 = 0 then
          cp (F_X7_kindOf l1 I J) fun r4 =>
          some (some r4)
        else
          if l2 = (1 : Int32) then
            cp (F_X7_firstOf l1 I J) fun r3 =>
            some (some r3)
          else
            cp (F_X7_secondOf l1 I J) fun r2 =>
            some (some r2)
      else
        some none
set_option maxRecDepth 100000 in
theorem xg_X11_fault (b : Bool) (l1 : Int32) (l2 : Int32) (I : HI) (J : HJ) : X (fun r : Option Int32 => RtX mX11_fault 20 (zs b, I, J) (r.map (fun v => Value.int v))) mX11_fault (rmd 7 1 6) (0, 0) 0 [(0, .ref 0), (1, .int l1), (2, .int l2)] [] (zs b, I, J) (F_X11_fault l1 l2 I J) := by
  unfold F_X11_fault
  refine X.aload_n 0 0 rfl rfl ?_
  refine X.getR 1 rfl fo_X11_78 rfl rfl rfl ?_
  refine X.iload_n 2 1 rfl rfl ?_
  refine X.qVI (d := 4) (av := [.int l1]) (rs := [.int l1]) (b := 48) 3 rfl co_X11_326 rfl rfl rfl rfl rfl ⟨⟨Nat.le_of_ble_eq_true rfl, Nat.le_of_ble_eq_true rfl⟩, ⟨Nat.le_of_ble_eq_true rfl, Nat.le_of_ble_eq_true rfl⟩, Nat.le_of_ble_eq_true rfl⟩ (cm_X7_has b l1 I J) (fun r1 => ?_)
  refine X.if_eq 20 4 rfl (by decide) (fun _ => ?_) (fun _ => ?_)
  · exact X.thI
  · refine X.iload_n 5 2 rfl rfl ?_
    refine X.if_lt 20 6 rfl (by decide) (fun _ => ?_) (fun _ => ?_)
    · exact X.thI
    · refine X.iload_n 7 2 rfl rfl ?_
      refine X.iconst (2 : Int32) 8 rfl (by decide) ?_
      refine X.icmp_le 28 9 rfl (by decide) (fun _ => ?_) (fun _ => ?_)
      · refine X.iload_n 14 2 rfl rfl ?_
        refine X.if_ne 41 15 rfl (by decide) (fun _ => ?_) (fun _ => ?_)
        · refine X.iload_n 21 2 rfl rfl ?_
          refine X.iconst (1 : Int32) 22 rfl (by decide) ?_
          refine X.icmp_ne 57 23 rfl (by decide) (fun _ => ?_) (fun _ => ?_)
          · refine X.aload_n 29 0 rfl rfl ?_
            refine X.getR 30 rfl fo_X11_78 rfl rfl rfl ?_
            refine X.iload_n 31 1 rfl rfl ?_
            refine X.qVI (d := 4) (av := [.int l1]) (rs := [.int l1]) (b := 48) 32 rfl co_X11_335 rfl rfl rfl rfl rfl ⟨⟨Nat.le_of_ble_eq_true rfl, Nat.le_of_ble_eq_true rfl⟩, ⟨Nat.le_of_ble_eq_true rfl, Nat.le_of_ble_eq_true rfl⟩, Nat.le_of_ble_eq_true rfl⟩ (cm_X7_secondOf b l1 I J) (fun r2 => ?_)
            exact X.ire (em := Value.int) 33 rfl rfl
          · refine X.aload_n 24 0 rfl rfl ?_
            refine X.getR 25 rfl fo_X11_78 rfl rfl rfl ?_
            refine X.iload_n 26 1 rfl rfl ?_
            refine X.qVI (d := 3) (av := [.int l1]) (rs := [.int l1]) (b := 48) 27 rfl co_X11_332 rfl rfl rfl rfl rfl ⟨⟨Nat.le_of_ble_eq_true rfl, Nat.le_of_ble_eq_true rfl⟩, ⟨Nat.le_of_ble_eq_true rfl, Nat.le_of_ble_eq_true rfl⟩, Nat.le_of_ble_eq_true rfl⟩ (cm_X7_firstOf b l1 I J) (fun r3 => ?_)
            refine X.goto 65 28 rfl (by decide) ?_
            exact X.ire (em := Value.int) 33 rfl rfl
        · refine X.aload_n 16 0 rfl rfl ?_
          refine X.getR 17 rfl fo_X11_78 rfl rfl rfl ?_
          refine X.iload_n 18 1 rfl rfl ?_
          refine X.qVI (d := 3) (av := [.int l1]) (rs := [.int l1]) (b := 48) 19 rfl co_X11_329 rfl rfl rfl rfl rfl ⟨⟨Nat.le_of_ble_eq_true rfl, Nat.le_of_ble_eq_true rfl⟩, ⟨Nat.le_of_ble_eq_true rfl, Nat.le_of_ble_eq_true rfl⟩, Nat.le_of_ble_eq_true rfl⟩ (cm_X7_kindOf b l1 I J) (fun r4 => ?_)
          exact X.ire (em := Value.int) 20 rfl rfl
      · exact X.thI
theorem xm_X11_fault (b : Bool) (l1 : Int32) (l2 : Int32) (I : HI) (J : HJ) (r : Option Int32) (hr : F_X11_fault l1 l2 I J = some r) : XMt mX11_fault 7 [.ref 0, .int l1, .int l2] (zs b, I, J) (r.map (fun v => Value.int v)) :=
  XMt.of 20 10 rfl okX11_fault pn_X11 (Nat.le_of_ble_eq_true rfl) (by decide) rfl rfl rfl rfl (xg_X11_fault b l1 l2 I J r hr)
def F_X11_row (l1 : Int32) (I : HI) (J : HJ) : Option (Option Int64) :=
  if l1 < 0 then
    some none
  else
    if l1 < (I x_told f_Told_size) then
      bx l1 16 <|
      some (some (J x_told_numbers (Int32.toNatClampNeg l1)))
    else
      some none
set_option maxRecDepth 100000 in
theorem xg_X11_row (b : Bool) (l1 : Int32) (I : HI) (J : HJ) : X (fun r : Option Int64 => RtX mX11_row 15 (zs b, I, J) (r.map (fun v => Value.long v))) mX11_row (rmd 7 1 6) (0, 0) 0 [(0, .ref 0), (1, .int l1)] [] (zs b, I, J) (F_X11_row l1 I J) := by
  unfold F_X11_row
  refine X.iload_n 0 1 rfl rfl ?_
  refine X.if_lt 15 1 rfl (by decide) (fun _ => ?_) (fun _ => ?_)
  · exact X.thL
  · refine X.iload_n 2 1 rfl rfl ?_
    refine X.aload_n 3 0 rfl rfl ?_
    refine X.getR 4 rfl fo_X11_35 rfl rfl rfl ?_
    refine X.getI 5 rfl fo_X11_402 rfl rfl ?_
    refine X.icmp_lt 23 6 rfl (by decide) (fun _ => ?_) (fun _ => ?_)
    · refine X.aload_n 11 0 rfl rfl ?_
      refine X.getR 12 rfl fo_X11_35 rfl rfl rfl ?_
      refine X.getR 13 rfl fo_X11_403 rfl rfl rfl ?_
      refine X.iload_n 14 1 rfl rfl ?_
      refine X.lald 15 rfl rfl ?_
      exact X.lre 16 rfl rfl
    · exact X.thL
theorem xm_X11_row (b : Bool) (l1 : Int32) (I : HI) (J : HJ) (r : Option Int64) (hr : F_X11_row l1 I J = some r) : XMt mX11_row 7 [.ref 0, .int l1] (zs b, I, J) (r.map (fun v => Value.long v)) :=
  XMt.of 15 7 rfl okX11_row pn_X11 (Nat.le_of_ble_eq_true rfl) (by decide) rfl rfl rfl rfl (xg_X11_row b l1 I J r hr)

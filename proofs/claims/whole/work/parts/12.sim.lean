/-! S: from a configuration the machine runs the computation f: where f answers r, the method ends as 'fin r' says -/
abbrev HI : Type := Nat → Nat → Int32
abbrev HJ : Type := Nat → Nat → Int64
def lb {α β : Type} (x : α) (k : α → β) : β := k x
def bx {α : Type} (x : Int32) (n : Nat) (k : Option α) : Option α := if x < 0 ∨ n ≤ x.toNatClampNeg then none else k
def nzi {α : Type} (y : Int32) (k : Option α) : Option α := if y = 0 then none else k
def nzl {α : Type} (y : Int64) (k : Option α) : Option α := if y = 0 then none else k
def g01 {α : Type} (v : Int32) (k : Option α) : Option α := if v = 0 ∨ v = 1 then k else none
def cl {τ σ : Type} (f : Option (τ × HI × HJ)) (k : τ → HI → HJ → Option σ) : Option σ := f.bind (fun q => k q.1 q.2.1 q.2.2)
def cp {τ σ : Type} (f : Option τ) (k : τ → Option σ) : Option σ := f.bind k
abbrev Fin' (ρ : Type) : Type := ρ → Option Value × Hp
def fI (Z : List Kd) : Fin' (Int32 × HI × HJ) := fun q => (some (.int q.1), (Z, q.2.1, q.2.2))
def fL (Z : List Kd) : Fin' (Int64 × HI × HJ) := fun q => (some (.long q.1), (Z, q.2.1, q.2.2))
def fV (Z : List Kd) : Fin' (Unit × HI × HJ) := fun q => (none, (Z, q.2.1, q.2.2))
def pI (h : Hp) : Fin' Int32 := fun r => (some (.int r), h)
def pL (h : Hp) : Fin' Int64 := fun r => (some (.long r), h)
def pV (h : Hp) : Fin' Unit := fun _ => (none, h)
def S {ρ : Type} (fin : Fin' ρ) (M : MD) (R : Room) (mc ms : Nat) (cs : Nat × Nat) (pc : Nat) (lv : Lv) (st : List Value) (h : Hp) (f : Option ρ) : Prop :=
  ∀ r, f = some r → G M R (Rt M mc ms (fun v g => (v, g) = fin r)) cs pc lv st h
/-- a method's contract: where f answers, it ends so -/
def CM {ρ : Type} (M : MD) (d mc ms : Nat) (av : List Value) (h : Hp) (fin : Fin' ρ) (f : Option ρ) : Prop := ∀ r, f = some r → GM M d mc ms av h (fun v g => (v, g) = fin r)
section SR
variable {ρ : Type} {fin : Fin' ρ} {M : MD} {R : Room} {mc ms : Nat} {cs : Nat × Nat} {pc : Nat} {lv : Lv} {st : List Value} {h : Hp} {Z : List Kd} {I : HI} {J : HJ} {f : Option ρ}
theorem S.none : S fin M R mc ms cs pc lv st h (Option.none : Option ρ) := fun r hf => by cases hf
theorem S.sub {lv' : Lv} (ks : List Nat) (hl' : lv_pick lv ks = lv') (k : S fin M R mc ms cs pc lv' st h f) : S fin M R mc ms cs pc lv st h f := fun r9 hf9 => G.sub ks hl' (k r9 hf9)
theorem S.nmi {x : Int32} {F : Int32 → Option ρ} (k : ∀ x : Int32, S fin M R mc ms cs pc lv (.int x :: st) h (F x)) : S fin M R mc ms cs pc lv (.int x :: st) h (lb x F) := k x
theorem S.nml {x : Int64} {F : Int64 → Option ρ} (k : ∀ x : Int64, S fin M R mc ms cs pc lv (.long x :: st) h (F x)) : S fin M R mc ms cs pc lv (.long x :: st) h (lb x F) := k x
theorem S.join {α : Type} {j : α} {F : α → Option ρ} (k : S fin M R mc ms cs pc lv st h (F j)) : S fin M R mc ms cs pc lv st h (lb j F) := k
theorem S.ite {c : Prop} [Decidable c] {f1 f2 : Option ρ} (kt : c → S fin M R mc ms cs pc lv st h f1) (kf : ¬ c → S fin M R mc ms cs pc lv st h f2) : S fin M R mc ms cs pc lv st h (if c then f1 else f2) := by
  by_cases hc : c
  · rw [if_pos hc]; exact kt hc
  · rw [if_neg hc]; exact kf hc
theorem S.gg01 {v : Int32} (k : v = 0 ∨ v = 1 → S fin M R mc ms cs pc lv st h f) : S fin M R mc ms cs pc lv st h (g01 v f) := S.ite k (fun _ => S.none)
theorem S.gbx {x : Int32} {n : Nat} (k : vp_in x n → S fin M R mc ms cs pc lv st h f) : S fin M R mc ms cs pc lv st h (bx x n f) := S.ite (fun _ => S.none) k
theorem S.vret {r0 : ρ} (i : Nat) (hi : M.2.2.2.2[i]? = some (pc, .return_, 1)) (hr : M.2.2.2.1 = Option.none) (h1 : cs.1 ≤ mc) (h2 : cs.2 ≤ ms) (hf : fin r0 = (Option.none, h)) : S fin M R mc ms cs pc lv [] h (some r0) := fun r hr' => by cases hr'; exact G.vret i hi hr h1 h2 hf.symm
theorem S.iret {r0 : ρ} {ty : FieldType} {v : Int32} (i : Nat) (hi : M.2.2.2.2[i]? = some (pc, .ireturn, 1)) (hr : M.2.2.2.1 = some ty) (hn : narrow ty (.int v) = .int v) (h1 : cs.1 ≤ mc) (h2 : cs.2 ≤ ms) (hf : fin r0 = (some (.int v), h)) : S fin M R mc ms cs pc lv [.int v] h (some r0) := fun r hr' => by cases hr'; exact G.iret i hi hr hn h1 h2 hf.symm
theorem S.lret {r0 : ρ} {v : Int64} (i : Nat) (hi : M.2.2.2.2[i]? = some (pc, .lreturn, 1)) (hr : M.2.2.2.1 = some .long) (h1 : cs.1 ≤ mc) (h2 : cs.2 ≤ ms) (hf : fin r0 = (some (.long v), h)) : S fin M R mc ms cs pc lv [.long v] h (some r0) := fun r hr' => by cases hr'; exact G.lret i hi hr h1 h2 hf.symm
theorem nar01 {v : Int32} (h : v = 0 ∨ v = 1) : narrow .boolean (.int v) = .int v := by rcases h with rfl | rfl <;> rfl
theorem S.of {d : Nat} {av : List Value} (hok : MOk M) (hpl : plainName M.1.cls = true) (hlen : (lg_sl av).length ≤ M.2.2.1) (s : S fin M (rmd d mc ms) mc ms (0, 0) 0 (lv_args 0 av) [] h f) : CM M d mc ms av h fin f := fun r hf => GM.of hok hpl hlen (s r hf)
theorem S.iconst {n : Int} (v : Int32) (i : Nat) (hi : M.2.2.2.2[i]? = some (pc, .iconst n, 1)) (hv : Int32.ofInt n = v) (k : S fin M R mc ms cs (pc + 1) lv (.int v :: st) h f) : S fin M R mc ms cs pc lv (st) h f := fun r9 hf9 => G.iconst v i hi hv (k r9 hf9)
theorem S.bipush {n : Int} (v : Int32) (i : Nat) (hi : M.2.2.2.2[i]? = some (pc, .bipush n, 2)) (hv : (Int8.ofInt n).toInt32 = v) (k : S fin M R mc ms cs (pc + 2) lv (.int v :: st) h f) : S fin M R mc ms cs pc lv (st) h f := fun r9 hf9 => G.bipush v i hi hv (k r9 hf9)
theorem S.sipush {n : Int} (v : Int32) (i : Nat) (hi : M.2.2.2.2[i]? = some (pc, .sipush n, 3)) (hv : (Int16.ofInt n).toInt32 = v) (k : S fin M R mc ms cs (pc + 3) lv (.int v :: st) h f) : S fin M R mc ms cs pc lv (st) h f := fun r9 hf9 => G.sipush v i hi hv (k r9 hf9)
theorem S.lconst {n : Fin 2} (v : Int64) (i : Nat) (hi : M.2.2.2.2[i]? = some (pc, .lconst n, 1)) (hv : Int64.ofNat (n : Nat) = v) (k : S fin M R mc ms cs (pc + 1) lv (.long v :: st) h f) : S fin M R mc ms cs pc lv (st) h f := fun r9 hf9 => G.lconst v i hi hv (k r9 hf9)
theorem S.ldc {x : Nat} (v : Int32) (i : Nat) (hi : M.2.2.2.2[i]? = some (pc, .ldc x, 2)) (hc : Cond.constant M.1.cls x v ∈ wl) (k : S fin M R mc ms cs (pc + 2) lv (.int v :: st) h f) : S fin M R mc ms cs pc lv (st) h f := fun r9 hf9 => G.ldc v i hi hc (k r9 hf9)
theorem S.ldcw {x : Nat} (v : Int32) (i : Nat) (hi : M.2.2.2.2[i]? = some (pc, .ldc_w x, 3)) (hc : Cond.constant M.1.cls x v ∈ wl) (k : S fin M R mc ms cs (pc + 3) lv (.int v :: st) h f) : S fin M R mc ms cs pc lv (st) h f := fun r9 hf9 => G.ldcw v i hi hc (k r9 hf9)
theorem S.ldc2 {x : Nat} (v : Int64) (i : Nat) (hi : M.2.2.2.2[i]? = some (pc, .ldc2_w x, 3)) (hc : Cond.constantLong M.1.cls x v ∈ wl) (k : S fin M R mc ms cs (pc + 3) lv (.long v :: st) h f) : S fin M R mc ms cs pc lv (st) h f := fun r9 hf9 => G.ldc2 v i hi hc (k r9 hf9)
theorem S.iadd {x y : Int32} (i : Nat) (hi : M.2.2.2.2[i]? = some (pc, .iadd, 1)) (k : S fin M R mc ms cs (pc + 1) lv (.int (x + y) :: st) h f) : S fin M R mc ms cs pc lv (.int y :: .int x :: st) h f := fun r9 hf9 => G.iadd i hi (k r9 hf9)
theorem S.isub {x y : Int32} (i : Nat) (hi : M.2.2.2.2[i]? = some (pc, .isub, 1)) (k : S fin M R mc ms cs (pc + 1) lv (.int (x - y) :: st) h f) : S fin M R mc ms cs pc lv (.int y :: .int x :: st) h f := fun r9 hf9 => G.isub i hi (k r9 hf9)
theorem S.imul {x y : Int32} (i : Nat) (hi : M.2.2.2.2[i]? = some (pc, .imul, 1)) (k : S fin M R mc ms cs (pc + 1) lv (.int (x * y) :: st) h f) : S fin M R mc ms cs pc lv (.int y :: .int x :: st) h f := fun r9 hf9 => G.imul i hi (k r9 hf9)
theorem S.iand {x y : Int32} (i : Nat) (hi : M.2.2.2.2[i]? = some (pc, .iand, 1)) (k : S fin M R mc ms cs (pc + 1) lv (.int (x &&& y) :: st) h f) : S fin M R mc ms cs pc lv (.int y :: .int x :: st) h f := fun r9 hf9 => G.iand i hi (k r9 hf9)
theorem S.ior {x y : Int32} (i : Nat) (hi : M.2.2.2.2[i]? = some (pc, .ior, 1)) (k : S fin M R mc ms cs (pc + 1) lv (.int (x ||| y) :: st) h f) : S fin M R mc ms cs pc lv (.int y :: .int x :: st) h f := fun r9 hf9 => G.ior i hi (k r9 hf9)
theorem S.ixor {x y : Int32} (i : Nat) (hi : M.2.2.2.2[i]? = some (pc, .ixor, 1)) (k : S fin M R mc ms cs (pc + 1) lv (.int (x ^^^ y) :: st) h f) : S fin M R mc ms cs pc lv (.int y :: .int x :: st) h f := fun r9 hf9 => G.ixor i hi (k r9 hf9)
theorem S.ishl {x y : Int32} (i : Nat) (hi : M.2.2.2.2[i]? = some (pc, .ishl, 1)) (k : S fin M R mc ms cs (pc + 1) lv (.int (x <<< (y &&& 31)) :: st) h f) : S fin M R mc ms cs pc lv (.int y :: .int x :: st) h f := fun r9 hf9 => G.ishl i hi (k r9 hf9)
theorem S.ishr {x y : Int32} (i : Nat) (hi : M.2.2.2.2[i]? = some (pc, .ishr, 1)) (k : S fin M R mc ms cs (pc + 1) lv (.int (x >>> (y &&& 31)) :: st) h f) : S fin M R mc ms cs pc lv (.int y :: .int x :: st) h f := fun r9 hf9 => G.ishr i hi (k r9 hf9)
theorem S.ladd {x y : Int64} (i : Nat) (hi : M.2.2.2.2[i]? = some (pc, .ladd, 1)) (k : S fin M R mc ms cs (pc + 1) lv (.long (x + y) :: st) h f) : S fin M R mc ms cs pc lv (.long y :: .long x :: st) h f := fun r9 hf9 => G.ladd i hi (k r9 hf9)
theorem S.lsub {x y : Int64} (i : Nat) (hi : M.2.2.2.2[i]? = some (pc, .lsub, 1)) (k : S fin M R mc ms cs (pc + 1) lv (.long (x - y) :: st) h f) : S fin M R mc ms cs pc lv (.long y :: .long x :: st) h f := fun r9 hf9 => G.lsub i hi (k r9 hf9)
theorem S.lmul {x y : Int64} (i : Nat) (hi : M.2.2.2.2[i]? = some (pc, .lmul, 1)) (k : S fin M R mc ms cs (pc + 1) lv (.long (x * y) :: st) h f) : S fin M R mc ms cs pc lv (.long y :: .long x :: st) h f := fun r9 hf9 => G.lmul i hi (k r9 hf9)
theorem S.land {x y : Int64} (i : Nat) (hi : M.2.2.2.2[i]? = some (pc, .land, 1)) (k : S fin M R mc ms cs (pc + 1) lv (.long (x &&& y) :: st) h f) : S fin M R mc ms cs pc lv (.long y :: .long x :: st) h f := fun r9 hf9 => G.land i hi (k r9 hf9)
theorem S.lor {x y : Int64} (i : Nat) (hi : M.2.2.2.2[i]? = some (pc, .lor, 1)) (k : S fin M R mc ms cs (pc + 1) lv (.long (x ||| y) :: st) h f) : S fin M R mc ms cs pc lv (.long y :: .long x :: st) h f := fun r9 hf9 => G.lor i hi (k r9 hf9)
theorem S.lxor {x y : Int64} (i : Nat) (hi : M.2.2.2.2[i]? = some (pc, .lxor, 1)) (k : S fin M R mc ms cs (pc + 1) lv (.long (x ^^^ y) :: st) h f) : S fin M R mc ms cs pc lv (.long y :: .long x :: st) h f := fun r9 hf9 => G.lxor i hi (k r9 hf9)
theorem S.idiv {x y : Int32} (i : Nat) (hi : M.2.2.2.2[i]? = some (pc, .idiv, 1)) (k : S fin M R mc ms cs (pc + 1) lv (.int (x / y) :: st) h f) : S fin M R mc ms cs pc lv (.int y :: .int x :: st) h (nzi y f) := S.ite (fun _ => S.none) (fun hne => fun r9 hf9 => G.idiv i hi hne (k r9 hf9))
theorem S.irem {x y : Int32} (i : Nat) (hi : M.2.2.2.2[i]? = some (pc, .irem, 1)) (k : S fin M R mc ms cs (pc + 1) lv (.int (x - x / y * y) :: st) h f) : S fin M R mc ms cs pc lv (.int y :: .int x :: st) h (nzi y f) := S.ite (fun _ => S.none) (fun hne => fun r9 hf9 => G.irem i hi hne (k r9 hf9))
theorem S.ldiv {x y : Int64} (i : Nat) (hi : M.2.2.2.2[i]? = some (pc, .ldiv, 1)) (k : S fin M R mc ms cs (pc + 1) lv (.long (x / y) :: st) h f) : S fin M R mc ms cs pc lv (.long y :: .long x :: st) h (nzl y f) := S.ite (fun _ => S.none) (fun hne => fun r9 hf9 => G.ldiv i hi hne (k r9 hf9))
theorem S.ineg {x : Int32} (i : Nat) (hi : M.2.2.2.2[i]? = some (pc, .ineg, 1)) (k : S fin M R mc ms cs (pc + 1) lv (.int (-x) :: st) h f) : S fin M R mc ms cs pc lv (.int x :: st) h f := fun r9 hf9 => G.ineg i hi (k r9 hf9)
theorem S.iushr {x y : Int32} (i : Nat) (hi : M.2.2.2.2[i]? = some (pc, .iushr, 1)) (k : S fin M R mc ms cs (pc + 1) lv (.int ((x.toUInt32 >>> (y.toUInt32 &&& Int32.toUInt32 31)).toInt32) :: st) h f) : S fin M R mc ms cs pc lv (.int y :: .int x :: st) h f := fun r9 hf9 => G.iushr i hi (k r9 hf9)
theorem S.lushr {x : Int64} {y : Int32} (i : Nat) (hi : M.2.2.2.2[i]? = some (pc, .lushr, 1)) (k : S fin M R mc ms cs (pc + 1) lv (.long ((x.toUInt64 >>> (y.toInt64.toUInt64 &&& Int64.toUInt64 63)).toInt64) :: st) h f) : S fin M R mc ms cs pc lv (.int y :: .long x :: st) h f := fun r9 hf9 => G.lushr i hi (k r9 hf9)
theorem S.lshr {x : Int64} {y : Int32} (i : Nat) (hi : M.2.2.2.2[i]? = some (pc, .lshr, 1)) (k : S fin M R mc ms cs (pc + 1) lv (.long (x >>> (y.toInt64 &&& 63)) :: st) h f) : S fin M R mc ms cs pc lv (.int y :: .long x :: st) h f := fun r9 hf9 => G.lshr i hi (k r9 hf9)
theorem S.lshl {x : Int64} {y : Int32} (i : Nat) (hi : M.2.2.2.2[i]? = some (pc, .lshl, 1)) (k : S fin M R mc ms cs (pc + 1) lv (.long (x <<< (y.toInt64 &&& 63)) :: st) h f) : S fin M R mc ms cs pc lv (.int y :: .long x :: st) h f := fun r9 hf9 => G.lshl i hi (k r9 hf9)
theorem S.i2l {x : Int32} (i : Nat) (hi : M.2.2.2.2[i]? = some (pc, .i2l, 1)) (k : S fin M R mc ms cs (pc + 1) lv (.long x.toInt64 :: st) h f) : S fin M R mc ms cs pc lv (.int x :: st) h f := fun r9 hf9 => G.i2l i hi (k r9 hf9)
theorem S.l2i {x : Int64} (i : Nat) (hi : M.2.2.2.2[i]? = some (pc, .l2i, 1)) (k : S fin M R mc ms cs (pc + 1) lv (.int x.toInt32 :: st) h f) : S fin M R mc ms cs pc lv (.long x :: st) h f := fun r9 hf9 => G.l2i i hi (k r9 hf9)
theorem S.i2b {x : Int32} (i : Nat) (hi : M.2.2.2.2[i]? = some (pc, .i2b, 1)) (k : S fin M R mc ms cs (pc + 1) lv (.int x.toInt8.toInt32 :: st) h f) : S fin M R mc ms cs pc lv (.int x :: st) h f := fun r9 hf9 => G.i2b i hi (k r9 hf9)
theorem S.i2s {x : Int32} (i : Nat) (hi : M.2.2.2.2[i]? = some (pc, .i2s, 1)) (k : S fin M R mc ms cs (pc + 1) lv (.int x.toInt16.toInt32 :: st) h f) : S fin M R mc ms cs pc lv (.int x :: st) h f := fun r9 hf9 => G.i2s i hi (k r9 hf9)
theorem S.i2c {x : Int32} (i : Nat) (hi : M.2.2.2.2[i]? = some (pc, .i2c, 1)) (k : S fin M R mc ms cs (pc + 1) lv (.int (x.toUInt32 % 65536).toInt32 :: st) h f) : S fin M R mc ms cs pc lv (.int x :: st) h f := fun r9 hf9 => G.i2c i hi (k r9 hf9)
theorem S.lcmp {x y : Int64} (i : Nat) (hi : M.2.2.2.2[i]? = some (pc, .lcmp, 1)) (k : S fin M R mc ms cs (pc + 1) lv (.int (lg_cmp x y) :: st) h f) : S fin M R mc ms cs pc lv (.long y :: .long x :: st) h f := fun r9 hf9 => G.lcmp i hi (k r9 hf9)
theorem S.dup {va : Value} (i : Nat) (hi : M.2.2.2.2[i]? = some (pc, .dup, 1)) (hva : va.category = 1) (k : S fin M R mc ms cs (pc + 1) lv (va :: va :: st) h f) : S fin M R mc ms cs pc lv (va :: st) h f := fun r9 hf9 => G.dup i hi hva (k r9 hf9)
theorem S.pop {va : Value} (i : Nat) (hi : M.2.2.2.2[i]? = some (pc, .pop, 1)) (hva : va.category = 1) (k : S fin M R mc ms cs (pc + 1) lv (st) h f) : S fin M R mc ms cs pc lv (va :: st) h f := fun r9 hf9 => G.pop i hi hva (k r9 hf9)
theorem S.dup_x1 {va vb : Value} (i : Nat) (hi : M.2.2.2.2[i]? = some (pc, .dup_x1, 1)) (hva : va.category = 1) (hvb : vb.category = 1) (k : S fin M R mc ms cs (pc + 1) lv (va :: vb :: va :: st) h f) : S fin M R mc ms cs pc lv (va :: vb :: st) h f := fun r9 hf9 => G.dup_x1 i hi hva hvb (k r9 hf9)
theorem S.dup2_11 {va vb : Value} (i : Nat) (hi : M.2.2.2.2[i]? = some (pc, .dup2, 1)) (hva : va.category = 1) (hvb : vb.category = 1) (k : S fin M R mc ms cs (pc + 1) lv (va :: vb :: va :: vb :: st) h f) : S fin M R mc ms cs pc lv (va :: vb :: st) h f := fun r9 hf9 => G.dup2_11 i hi hva hvb (k r9 hf9)
theorem S.dup2_2 {va : Value} (i : Nat) (hi : M.2.2.2.2[i]? = some (pc, .dup2, 1)) (hva : va.category = 2) (k : S fin M R mc ms cs (pc + 1) lv (va :: va :: st) h f) : S fin M R mc ms cs pc lv (va :: st) h f := fun r9 hf9 => G.dup2_2 i hi hva (k r9 hf9)
theorem S.pop2_2 {va : Value} (i : Nat) (hi : M.2.2.2.2[i]? = some (pc, .pop2, 1)) (hva : va.category = 2) (k : S fin M R mc ms cs (pc + 1) lv (st) h f) : S fin M R mc ms cs pc lv (va :: st) h f := fun r9 hf9 => G.pop2_2 i hi hva (k r9 hf9)
theorem S.iload_n {a : Fin 4} {x : Int32} (i j : Nat) (hi : M.2.2.2.2[i]? = some (pc, .iload_n a, 1)) (hj : lv[j]? = some ((a : Nat), .int x)) (k : S fin M R mc ms cs (pc + 1) lv (.int x :: st) h f) : S fin M R mc ms cs pc lv st h f := fun r9 hf9 => G.iload_n i j hi hj (k r9 hf9)
theorem S.iload {a : Nat} {x : Int32} (i j : Nat) (hi : M.2.2.2.2[i]? = some (pc, .iload a, 2)) (hj : lv[j]? = some (a, .int x)) (k : S fin M R mc ms cs (pc + 2) lv (.int x :: st) h f) : S fin M R mc ms cs pc lv st h f := fun r9 hf9 => G.iload i j hi hj (k r9 hf9)
theorem S.lload_n {a : Fin 4} {x : Int64} (i j : Nat) (hi : M.2.2.2.2[i]? = some (pc, .lload_n a, 1)) (hj : lv[j]? = some ((a : Nat), .long x)) (k : S fin M R mc ms cs (pc + 1) lv (.long x :: st) h f) : S fin M R mc ms cs pc lv st h f := fun r9 hf9 => G.lload_n i j hi hj (k r9 hf9)
theorem S.lload {a : Nat} {x : Int64} (i j : Nat) (hi : M.2.2.2.2[i]? = some (pc, .lload a, 2)) (hj : lv[j]? = some (a, .long x)) (k : S fin M R mc ms cs (pc + 2) lv (.long x :: st) h f) : S fin M R mc ms cs pc lv st h f := fun r9 hf9 => G.lload i j hi hj (k r9 hf9)
theorem S.aload_n {a : Fin 4} {x : Nat} (i j : Nat) (hi : M.2.2.2.2[i]? = some (pc, .aload_n a, 1)) (hj : lv[j]? = some ((a : Nat), .ref x)) (k : S fin M R mc ms cs (pc + 1) lv (.ref x :: st) h f) : S fin M R mc ms cs pc lv st h f := fun r9 hf9 => G.aload_n i j hi hj (k r9 hf9)
theorem S.aload {a : Nat} {x : Nat} (i j : Nat) (hi : M.2.2.2.2[i]? = some (pc, .aload a, 2)) (hj : lv[j]? = some (a, .ref x)) (k : S fin M R mc ms cs (pc + 2) lv (.ref x :: st) h f) : S fin M R mc ms cs pc lv st h f := fun r9 hf9 => G.aload i j hi hj (k r9 hf9)
theorem S.istore_n {a : Fin 4} {x : Int32} (lv' : Lv) (i : Nat) (hi : M.2.2.2.2[i]? = some (pc, .istore_n a, 1)) (hn : (a : Nat) < M.2.2.1) (hl' : ((a : Nat), .int x) :: lv.filter (f1 a) = lv') (k : S fin M R mc ms cs (pc + 1) lv' st h f) : S fin M R mc ms cs pc lv (.int x :: st) h f := fun r9 hf9 => G.istore_n lv' i hi hn hl' (k r9 hf9)
theorem S.istore {a : Nat} {x : Int32} (lv' : Lv) (i : Nat) (hi : M.2.2.2.2[i]? = some (pc, .istore a, 2)) (hn : a < M.2.2.1) (hl' : (a, .int x) :: lv.filter (f1 a) = lv') (k : S fin M R mc ms cs (pc + 2) lv' st h f) : S fin M R mc ms cs pc lv (.int x :: st) h f := fun r9 hf9 => G.istore lv' i hi hn hl' (k r9 hf9)
theorem S.lstore_n {a : Fin 4} {x : Int64} (lv' : Lv) (i : Nat) (hi : M.2.2.2.2[i]? = some (pc, .lstore_n a, 1)) (hn : (a : Nat) + 1 < M.2.2.1) (hl' : ((a : Nat), .long x) :: lv.filter (f2 a) = lv') (k : S fin M R mc ms cs (pc + 1) lv' st h f) : S fin M R mc ms cs pc lv (.long x :: st) h f := fun r9 hf9 => G.lstore_n lv' i hi hn hl' (k r9 hf9)
theorem S.lstore {a : Nat} {x : Int64} (lv' : Lv) (i : Nat) (hi : M.2.2.2.2[i]? = some (pc, .lstore a, 2)) (hn : a + 1 < M.2.2.1) (hl' : (a, .long x) :: lv.filter (f2 a) = lv') (k : S fin M R mc ms cs (pc + 2) lv' st h f) : S fin M R mc ms cs pc lv (.long x :: st) h f := fun r9 hf9 => G.lstore lv' i hi hn hl' (k r9 hf9)
theorem S.astore_n {a : Fin 4} {x : Nat} (lv' : Lv) (i : Nat) (hi : M.2.2.2.2[i]? = some (pc, .astore_n a, 1)) (hn : (a : Nat) < M.2.2.1) (hl' : ((a : Nat), .ref x) :: lv.filter (f1 a) = lv') (k : S fin M R mc ms cs (pc + 1) lv' st h f) : S fin M R mc ms cs pc lv (.ref x :: st) h f := fun r9 hf9 => G.astore_n lv' i hi hn hl' (k r9 hf9)
theorem S.astore {a : Nat} {x : Nat} (lv' : Lv) (i : Nat) (hi : M.2.2.2.2[i]? = some (pc, .astore a, 2)) (hn : a < M.2.2.1) (hl' : (a, .ref x) :: lv.filter (f1 a) = lv') (k : S fin M R mc ms cs (pc + 2) lv' st h f) : S fin M R mc ms cs pc lv (.ref x :: st) h f := fun r9 hf9 => G.astore lv' i hi hn hl' (k r9 hf9)
theorem S.iinc {a : Nat} {n : Int} {x : Int32} (v : Int32) (lv' : Lv) (i j : Nat) (hi : M.2.2.2.2[i]? = some (pc, .iinc a n, 3)) (hj : lv[j]? = some (a, .int x)) (hv : x + Int32.ofInt n = v) (hn : a < M.2.2.1) (hl' : (a, .int v) :: lv.filter (f1 a) = lv') (k : S fin M R mc ms cs (pc + 3) lv' st h f) : S fin M R mc ms cs pc lv st h f := fun r9 hf9 => G.iinc v lv' i j hi hj hv hn hl' (k r9 hf9)
theorem S.iincW {a : Nat} {n : Int} {x : Int32} (v : Int32) (lv' : Lv) (i j : Nat) (hi : M.2.2.2.2[i]? = some (pc, .iinc a n, 6)) (hj : lv[j]? = some (a, .int x)) (hv : x + Int32.ofInt n = v) (hn : a < M.2.2.1) (hl' : (a, .int v) :: lv.filter (f1 a) = lv') (k : S fin M R mc ms cs (pc + 6) lv' st h f) : S fin M R mc ms cs pc lv st h f := fun r9 hf9 => G.iincW v lv' i j hi hj hv hn hl' (k r9 hf9)
theorem S.if_eq {f1 f2 : Option ρ} {x : Int32} {off : Int} (tgt : Nat) (i : Nat) (hi : M.2.2.2.2[i]? = some (pc, .ifCond .eq off, 3)) (ht : (pc : Int) + off = (tgt : Int)) (kt : x = 0 → S fin M R mc ms cs tgt lv st h f1) (kf : ¬ x = 0 → S fin M R mc ms cs (pc + 3) lv st h f2) : S fin M R mc ms cs pc lv (.int x :: st) h (if x = 0 then f1 else f2) := by
  intro r hf
  refine G.if_eq tgt i hi ht (fun q => ?_) (fun q => ?_)
  · rw [if_pos q] at hf; exact kt q r hf
  · rw [if_neg q] at hf; exact kf q r hf
theorem S.if_ne {f1 f2 : Option ρ} {x : Int32} {off : Int} (tgt : Nat) (i : Nat) (hi : M.2.2.2.2[i]? = some (pc, .ifCond .ne off, 3)) (ht : (pc : Int) + off = (tgt : Int)) (kt : ¬ x = 0 → S fin M R mc ms cs tgt lv st h f1) (kf : x = 0 → S fin M R mc ms cs (pc + 3) lv st h f2) : S fin M R mc ms cs pc lv (.int x :: st) h (if x = 0 then f2 else f1) := by
  intro r hf
  refine G.if_ne tgt i hi ht (fun q => ?_) (fun q => ?_)
  · rw [if_neg q] at hf; exact kt q r hf
  · rw [if_pos q] at hf; exact kf q r hf
theorem S.if_lt {f1 f2 : Option ρ} {x : Int32} {off : Int} (tgt : Nat) (i : Nat) (hi : M.2.2.2.2[i]? = some (pc, .ifCond .lt off, 3)) (ht : (pc : Int) + off = (tgt : Int)) (kt : x < 0 → S fin M R mc ms cs tgt lv st h f1) (kf : ¬ x < 0 → S fin M R mc ms cs (pc + 3) lv st h f2) : S fin M R mc ms cs pc lv (.int x :: st) h (if x < 0 then f1 else f2) := by
  intro r hf
  refine G.if_lt tgt i hi ht (fun q => ?_) (fun q => ?_)
  · rw [if_pos q] at hf; exact kt q r hf
  · rw [if_neg q] at hf; exact kf q r hf
theorem S.if_ge {f1 f2 : Option ρ} {x : Int32} {off : Int} (tgt : Nat) (i : Nat) (hi : M.2.2.2.2[i]? = some (pc, .ifCond .ge off, 3)) (ht : (pc : Int) + off = (tgt : Int)) (kt : 0 ≤ x → S fin M R mc ms cs tgt lv st h f1) (kf : ¬ 0 ≤ x → S fin M R mc ms cs (pc + 3) lv st h f2) : S fin M R mc ms cs pc lv (.int x :: st) h (if 0 ≤ x then f1 else f2) := by
  intro r hf
  refine G.if_ge tgt i hi ht (fun q => ?_) (fun q => ?_)
  · rw [if_pos q] at hf; exact kt q r hf
  · rw [if_neg q] at hf; exact kf q r hf
theorem S.if_gt {f1 f2 : Option ρ} {x : Int32} {off : Int} (tgt : Nat) (i : Nat) (hi : M.2.2.2.2[i]? = some (pc, .ifCond .gt off, 3)) (ht : (pc : Int) + off = (tgt : Int)) (kt : 0 < x → S fin M R mc ms cs tgt lv st h f1) (kf : ¬ 0 < x → S fin M R mc ms cs (pc + 3) lv st h f2) : S fin M R mc ms cs pc lv (.int x :: st) h (if 0 < x then f1 else f2) := by
  intro r hf
  refine G.if_gt tgt i hi ht (fun q => ?_) (fun q => ?_)
  · rw [if_pos q] at hf; exact kt q r hf
  · rw [if_neg q] at hf; exact kf q r hf
theorem S.if_le {f1 f2 : Option ρ} {x : Int32} {off : Int} (tgt : Nat) (i : Nat) (hi : M.2.2.2.2[i]? = some (pc, .ifCond .le off, 3)) (ht : (pc : Int) + off = (tgt : Int)) (kt : x ≤ 0 → S fin M R mc ms cs tgt lv st h f1) (kf : ¬ x ≤ 0 → S fin M R mc ms cs (pc + 3) lv st h f2) : S fin M R mc ms cs pc lv (.int x :: st) h (if x ≤ 0 then f1 else f2) := by
  intro r hf
  refine G.if_le tgt i hi ht (fun q => ?_) (fun q => ?_)
  · rw [if_pos q] at hf; exact kt q r hf
  · rw [if_neg q] at hf; exact kf q r hf
theorem S.icmp_eq {f1 f2 : Option ρ} {x y : Int32} {off : Int} (tgt : Nat) (i : Nat) (hi : M.2.2.2.2[i]? = some (pc, .if_icmp .eq off, 3)) (ht : (pc : Int) + off = (tgt : Int)) (kt : x = y → S fin M R mc ms cs tgt lv st h f1) (kf : ¬ x = y → S fin M R mc ms cs (pc + 3) lv st h f2) : S fin M R mc ms cs pc lv (.int y :: .int x :: st) h (if x = y then f1 else f2) := by
  intro r hf
  refine G.icmp_eq tgt i hi ht (fun q => ?_) (fun q => ?_)
  · rw [if_pos q] at hf; exact kt q r hf
  · rw [if_neg q] at hf; exact kf q r hf
theorem S.icmp_ne {f1 f2 : Option ρ} {x y : Int32} {off : Int} (tgt : Nat) (i : Nat) (hi : M.2.2.2.2[i]? = some (pc, .if_icmp .ne off, 3)) (ht : (pc : Int) + off = (tgt : Int)) (kt : ¬ x = y → S fin M R mc ms cs tgt lv st h f1) (kf : x = y → S fin M R mc ms cs (pc + 3) lv st h f2) : S fin M R mc ms cs pc lv (.int y :: .int x :: st) h (if x = y then f2 else f1) := by
  intro r hf
  refine G.icmp_ne tgt i hi ht (fun q => ?_) (fun q => ?_)
  · rw [if_neg q] at hf; exact kt q r hf
  · rw [if_pos q] at hf; exact kf q r hf
theorem S.icmp_lt {f1 f2 : Option ρ} {x y : Int32} {off : Int} (tgt : Nat) (i : Nat) (hi : M.2.2.2.2[i]? = some (pc, .if_icmp .lt off, 3)) (ht : (pc : Int) + off = (tgt : Int)) (kt : x < y → S fin M R mc ms cs tgt lv st h f1) (kf : ¬ x < y → S fin M R mc ms cs (pc + 3) lv st h f2) : S fin M R mc ms cs pc lv (.int y :: .int x :: st) h (if x < y then f1 else f2) := by
  intro r hf
  refine G.icmp_lt tgt i hi ht (fun q => ?_) (fun q => ?_)
  · rw [if_pos q] at hf; exact kt q r hf
  · rw [if_neg q] at hf; exact kf q r hf
theorem S.icmp_ge {f1 f2 : Option ρ} {x y : Int32} {off : Int} (tgt : Nat) (i : Nat) (hi : M.2.2.2.2[i]? = some (pc, .if_icmp .ge off, 3)) (ht : (pc : Int) + off = (tgt : Int)) (kt : y ≤ x → S fin M R mc ms cs tgt lv st h f1) (kf : ¬ y ≤ x → S fin M R mc ms cs (pc + 3) lv st h f2) : S fin M R mc ms cs pc lv (.int y :: .int x :: st) h (if y ≤ x then f1 else f2) := by
  intro r hf
  refine G.icmp_ge tgt i hi ht (fun q => ?_) (fun q => ?_)
  · rw [if_pos q] at hf; exact kt q r hf
  · rw [if_neg q] at hf; exact kf q r hf
theorem S.icmp_gt {f1 f2 : Option ρ} {x y : Int32} {off : Int} (tgt : Nat) (i : Nat) (hi : M.2.2.2.2[i]? = some (pc, .if_icmp .gt off, 3)) (ht : (pc : Int) + off = (tgt : Int)) (kt : y < x → S fin M R mc ms cs tgt lv st h f1) (kf : ¬ y < x → S fin M R mc ms cs (pc + 3) lv st h f2) : S fin M R mc ms cs pc lv (.int y :: .int x :: st) h (if y < x then f1 else f2) := by
  intro r hf
  refine G.icmp_gt tgt i hi ht (fun q => ?_) (fun q => ?_)
  · rw [if_pos q] at hf; exact kt q r hf
  · rw [if_neg q] at hf; exact kf q r hf
theorem S.icmp_le {f1 f2 : Option ρ} {x y : Int32} {off : Int} (tgt : Nat) (i : Nat) (hi : M.2.2.2.2[i]? = some (pc, .if_icmp .le off, 3)) (ht : (pc : Int) + off = (tgt : Int)) (kt : x ≤ y → S fin M R mc ms cs tgt lv st h f1) (kf : ¬ x ≤ y → S fin M R mc ms cs (pc + 3) lv st h f2) : S fin M R mc ms cs pc lv (.int y :: .int x :: st) h (if x ≤ y then f1 else f2) := by
  intro r hf
  refine G.icmp_le tgt i hi ht (fun q => ?_) (fun q => ?_)
  · rw [if_pos q] at hf; exact kt q r hf
  · rw [if_neg q] at hf; exact kf q r hf
theorem S.goto {off : Int} (tgt : Nat) (i : Nat) (hi : M.2.2.2.2[i]? = some (pc, .goto off, 3)) (ht' : (pc : Int) + off = (tgt : Int)) (k : S fin M R mc ms cs tgt lv st h f) : S fin M R mc ms cs pc lv st h f := fun r9 hf9 => G.goto tgt i hi ht' (k r9 hf9)
theorem S.tswOut {dflt lo hi : Int} {offs : Array Int} {len : Nat} {x : Int32} (tgt : Nat) (i : Nat) (hi' : M.2.2.2.2[i]? = some (pc, .tableswitch dflt lo hi offs, len)) (hh : x.toInt < lo ∨ hi < x.toInt) (ht' : (pc : Int) + dflt = (tgt : Int)) (k : S fin M R mc ms cs tgt lv st h f) : S fin M R mc ms cs pc lv (.int x :: st) h f := fun r9 hf9 => G.tswOut tgt i hi' hh ht' (k r9 hf9)
theorem S.tswIn {dflt lo hi off : Int} {offs : Array Int} {len : Nat} {x : Int32} (tgt : Nat) (i : Nat) (hi' : M.2.2.2.2[i]? = some (pc, .tableswitch dflt lo hi offs, len)) (h1 : ¬ x.toInt < lo) (h2 : ¬ hi < x.toInt) (hof : offs[(x.toInt - lo).toNat]? = some off) (ht' : (pc : Int) + off = (tgt : Int)) (k : S fin M R mc ms cs tgt lv st h f) : S fin M R mc ms cs pc lv (.int x :: st) h f := fun r9 hf9 => G.tswIn tgt i hi' h1 h2 hof ht' (k r9 hf9)
theorem S.getI {idx ci j o : Nat} {rs : List Nat} (i : Nat) (hi : M.2.2.2.2[i]? = some (pc, .getfield idx, 3)) (hf : FOk M.1.cls idx ci j) (hz : Z[o]? = some (0, ci, rs)) (ht : fk (ctyp ci j) = 0) (k : S fin M R mc ms cs (pc + 3) lv (.int (I o j) :: st) (Z, I, J) f) : S fin M R mc ms cs pc lv (.ref o :: st) (Z, I, J) f := fun r9 hf9 => G.getI i hi hf hz ht (k r9 hf9)
theorem S.getJ {idx ci j o : Nat} {rs : List Nat} (i : Nat) (hi : M.2.2.2.2[i]? = some (pc, .getfield idx, 3)) (hf : FOk M.1.cls idx ci j) (hz : Z[o]? = some (0, ci, rs)) (ht : fk (ctyp ci j) = 1) (k : S fin M R mc ms cs (pc + 3) lv (.long (J o j) :: st) (Z, I, J) f) : S fin M R mc ms cs pc lv (.ref o :: st) (Z, I, J) f := fun r9 hf9 => G.getJ i hi hf hz ht (k r9 hf9)
theorem S.getR {idx ci j o r : Nat} {rs : List Nat} (i : Nat) (hi : M.2.2.2.2[i]? = some (pc, .getfield idx, 3)) (hf : FOk M.1.cls idx ci j) (hz : Z[o]? = some (0, ci, rs)) (ht : fk (ctyp ci j) = 2) (hr : rs.getD j 0 = r + 1) (k : S fin M R mc ms cs (pc + 3) lv (.ref r :: st) (Z, I, J) f) : S fin M R mc ms cs pc lv (.ref o :: st) (Z, I, J) f := fun r9 hf9 => G.getR i hi hf hz ht hr (k r9 hf9)
theorem S.putI {F : HI → Option ρ} {idx ci j o : Nat} {rs : List Nat} {v : Int32} (i : Nat) (hi : M.2.2.2.2[i]? = some (pc, .putfield idx, 3)) (hf : FOk M.1.cls idx ci j) (hz : Z[o]? = some (0, ci, rs)) (ht : fk (ctyp ci j) = 0) (hn : narrow (ctyp ci j) (.int v) = .int v) (hfit : fits (ctyp ci j) (.int v) = true) (hfin : FinOk M ci j) (k : ∀ I1 : HI, S fin M R mc ms cs (pc + 3) lv st (Z, I1, J) (F I1)) : S fin M R mc ms cs pc lv (.int v :: .ref o :: st) (Z, I, J) (lb (ui I o j v) F) := fun r9 hf9 => G.putI i hi hf hz ht hn hfit hfin (k _ r9 hf9)
theorem S.putJ {F : HJ → Option ρ} {idx ci j o : Nat} {rs : List Nat} {v : Int64} (i : Nat) (hi : M.2.2.2.2[i]? = some (pc, .putfield idx, 3)) (hf : FOk M.1.cls idx ci j) (hz : Z[o]? = some (0, ci, rs)) (ht : fk (ctyp ci j) = 1) (hn : narrow (ctyp ci j) (.long v) = .long v) (hfit : fits (ctyp ci j) (.long v) = true) (hfin : FinOk M ci j) (k : ∀ J1 : HJ, S fin M R mc ms cs (pc + 3) lv st (Z, I, J1) (F J1)) : S fin M R mc ms cs pc lv (.long v :: .ref o :: st) (Z, I, J) (lb (uj J o j v) F) := fun r9 hf9 => G.putJ i hi hf hz ht hn hfit hfin (k _ r9 hf9)
theorem S.putR {idx ci j o r : Nat} {rs : List Nat} (i : Nat) (hi : M.2.2.2.2[i]? = some (pc, .putfield idx, 3)) (hf : FOk M.1.cls idx ci j) (hz : Z[o]? = some (0, ci, rs)) (ht : fk (ctyp ci j) = 2) (hn : ∀ a : Nat, narrow (ctyp ci j) (.ref a) = .ref a) (hfit : ∀ a : Nat, fits (ctyp ci j) (.ref a) = true) (hfin : FinOk M ci j) (hl : j < rs.length) (k : S fin M R mc ms cs (pc + 3) lv st (Z.set o (0, ci, rs.set j (r + 1)), I, J) f) : S fin M R mc ms cs pc lv (.ref r :: .ref o :: st) (Z, I, J) f := fun r9 hf9 => G.putR i hi hf hz ht hn hfit hfin hl (k r9 hf9)
theorem S.iald {o n : Nat} {rs : List Nat} {x : Int32} (i : Nat) (hi : M.2.2.2.2[i]? = some (pc, .iaload, 1)) (hz : Z[o]? = some (1, n, rs)) (k : S fin M R mc ms cs (pc + 1) lv (.int (I o x.toNatClampNeg) :: st) (Z, I, J) f) : S fin M R mc ms cs pc lv (.int x :: .ref o :: st) (Z, I, J) (bx x n f) := S.gbx fun hin => fun r9 hf9 => G.iald i hi hz hin (k r9 hf9)
theorem S.bald {o n : Nat} {rs : List Nat} {x : Int32} (i : Nat) (hi : M.2.2.2.2[i]? = some (pc, .baload, 1)) (hz : Z[o]? = some (3, n, rs)) (k : S fin M R mc ms cs (pc + 1) lv (.int (I o x.toNatClampNeg) :: st) (Z, I, J) f) : S fin M R mc ms cs pc lv (.int x :: .ref o :: st) (Z, I, J) (bx x n f) := S.gbx fun hin => fun r9 hf9 => G.bald i hi hz hin (k r9 hf9)
theorem S.zald {o n : Nat} {rs : List Nat} {x : Int32} (i : Nat) (hi : M.2.2.2.2[i]? = some (pc, .baload, 1)) (hz : Z[o]? = some (5, n, rs)) (k : S fin M R mc ms cs (pc + 1) lv (.int (I o x.toNatClampNeg) :: st) (Z, I, J) f) : S fin M R mc ms cs pc lv (.int x :: .ref o :: st) (Z, I, J) (bx x n f) := S.gbx fun hin => fun r9 hf9 => G.zald i hi hz hin (k r9 hf9)
theorem S.cald {o n : Nat} {rs : List Nat} {x : Int32} (i : Nat) (hi : M.2.2.2.2[i]? = some (pc, .caload, 1)) (hz : Z[o]? = some (4, n, rs)) (k : S fin M R mc ms cs (pc + 1) lv (.int (I o x.toNatClampNeg) :: st) (Z, I, J) f) : S fin M R mc ms cs pc lv (.int x :: .ref o :: st) (Z, I, J) (bx x n f) := S.gbx fun hin => fun r9 hf9 => G.cald i hi hz hin (k r9 hf9)
theorem S.lald {o n : Nat} {rs : List Nat} {x : Int32} (i : Nat) (hi : M.2.2.2.2[i]? = some (pc, .laload, 1)) (hz : Z[o]? = some (2, n, rs)) (k : S fin M R mc ms cs (pc + 1) lv (.long (J o x.toNatClampNeg) :: st) (Z, I, J) f) : S fin M R mc ms cs pc lv (.int x :: .ref o :: st) (Z, I, J) (bx x n f) := S.gbx fun hin => fun r9 hf9 => G.lald i hi hz hin (k r9 hf9)
theorem S.aald {o n r : Nat} {rs : List Nat} {x : Int32} (i : Nat) (hi : M.2.2.2.2[i]? = some (pc, .aaload, 1)) (hz : Z[o]? = some (6, n, rs)) (hr' : rs.getD x.toNatClampNeg 0 = r + 1) (k : S fin M R mc ms cs (pc + 1) lv (.ref r :: st) (Z, I, J) f) : S fin M R mc ms cs pc lv (.int x :: .ref o :: st) (Z, I, J) (bx x n f) := S.gbx fun hin => fun r9 hf9 => G.aald i hi hz hin hr' (k r9 hf9)
theorem S.iast {F : HI → Option ρ} {o n : Nat} {rs : List Nat} {x v : Int32} (i : Nat) (hi : M.2.2.2.2[i]? = some (pc, .iastore, 1)) (hz : Z[o]? = some (1, n, rs)) (k : ∀ I1 : HI, S fin M R mc ms cs (pc + 1) lv st (Z, I1, J) (F I1)) : S fin M R mc ms cs pc lv (.int v :: .int x :: .ref o :: st) (Z, I, J) (bx x n (lb (ui I o x.toNatClampNeg v) F)) := S.gbx fun hin => fun r9 hf9 => G.iast i hi hz hin (k _ r9 hf9)
theorem S.bast {F : HI → Option ρ} {o n : Nat} {rs : List Nat} {x v : Int32} (i : Nat) (hi : M.2.2.2.2[i]? = some (pc, .bastore, 1)) (hz : Z[o]? = some (3, n, rs)) (k : ∀ I1 : HI, S fin M R mc ms cs (pc + 1) lv st (Z, I1, J) (F I1)) : S fin M R mc ms cs pc lv (.int v :: .int x :: .ref o :: st) (Z, I, J) (bx x n (lb (ui I o x.toNatClampNeg (vp_nar .byte v)) F)) := S.gbx fun hin => fun r9 hf9 => G.bast i hi hz hin (k _ r9 hf9)
theorem S.zast {F : HI → Option ρ} {o n : Nat} {rs : List Nat} {x v : Int32} (i : Nat) (hi : M.2.2.2.2[i]? = some (pc, .bastore, 1)) (hz : Z[o]? = some (5, n, rs)) (k : ∀ I1 : HI, S fin M R mc ms cs (pc + 1) lv st (Z, I1, J) (F I1)) : S fin M R mc ms cs pc lv (.int v :: .int x :: .ref o :: st) (Z, I, J) (bx x n (lb (ui I o x.toNatClampNeg (vp_nar .boolean v)) F)) := S.gbx fun hin => fun r9 hf9 => G.zast i hi hz hin (k _ r9 hf9)
theorem S.cast {F : HI → Option ρ} {o n : Nat} {rs : List Nat} {x v : Int32} (i : Nat) (hi : M.2.2.2.2[i]? = some (pc, .castore, 1)) (hz : Z[o]? = some (4, n, rs)) (k : ∀ I1 : HI, S fin M R mc ms cs (pc + 1) lv st (Z, I1, J) (F I1)) : S fin M R mc ms cs pc lv (.int v :: .int x :: .ref o :: st) (Z, I, J) (bx x n (lb (ui I o x.toNatClampNeg (vp_nar .char v)) F)) := S.gbx fun hin => fun r9 hf9 => G.cast i hi hz hin (k _ r9 hf9)
theorem S.last {F : HJ → Option ρ} {o n : Nat} {rs : List Nat} {x : Int32} {v : Int64} (i : Nat) (hi : M.2.2.2.2[i]? = some (pc, .lastore, 1)) (hz : Z[o]? = some (2, n, rs)) (k : ∀ J1 : HJ, S fin M R mc ms cs (pc + 1) lv st (Z, I, J1) (F J1)) : S fin M R mc ms cs pc lv (.long v :: .int x :: .ref o :: st) (Z, I, J) (bx x n (lb (uj J o x.toNatClampNeg v) F)) := S.gbx fun hin => fun r9 hf9 => G.last i hi hz hin (k _ r9 hf9)
theorem S.aast {o n r ci : Nat} {rs rs2 : List Nat} {x : Int32} (i : Nat) (hi : M.2.2.2.2[i]? = some (pc, .aastore, 1)) (hz : Z[o]? = some (6, n, rs)) (hz2 : Z[r]? = some (0, 2, rs2)) (hin : vp_in x n) (hl' : x.toNatClampNeg < rs.length) (k : S fin M R mc ms cs (pc + 1) lv st (Z.set o (6, n, rs.set x.toNatClampNeg (r + 1)), I, J) f) : S fin M R mc ms cs pc lv (.ref r :: .int x :: .ref o :: st) (Z, I, J) f := fun r9 hf9 => G.aast (ci := ci) i hi hz hz2 hin hl' (k r9 hf9)
theorem S.alen {o t n : Nat} {rs : List Nat} (v : Int32) (i : Nat) (hi : M.2.2.2.2[i]? = some (pc, .arraylength, 1)) (hz : h.1[o]? = some (t, n, rs)) (h0 : 1 ≤ t) (h6 : t ≤ 6) (hv : Int32.ofNat n = v) (k : S fin M R mc ms cs (pc + 1) lv (.int v :: st) h f) : S fin M R mc ms cs pc lv (.ref o :: st) h f := fun r9 hf9 => G.alen v i hi hz h0 h6 hv (k r9 hf9)
theorem S.gets {idx : Nat} (i : Nat) (hi : M.2.2.2.2[i]? = some (pc, .getstatic idx, 3)) (hf : Cond.fieldLink M.1.cls idx "NinetyLamps$Flow" "SHARES" "[I" ∈ wl) (k : S fin M R mc ms cs (pc + 3) lv (.ref shx :: st) h f) : S fin M R mc ms cs pc lv st h f := fun r9 hf9 => G.gets i hi hf (k r9 hf9)
theorem S.shld {x : Int32} (i : Nat) (hi : M.2.2.2.2[i]? = some (pc, .iaload, 1)) (k : S fin M R mc ms cs (pc + 1) lv (.int (shI x.toNatClampNeg) :: st) h f) : S fin M R mc ms cs pc lv (.int x :: .ref shx :: st) h (bx x 12 f) := S.gbx fun hin => fun r9 hf9 => G.shld i hi hin (k r9 hf9)
theorem S.shlen (i : Nat) (hi : M.2.2.2.2[i]? = some (pc, .arraylength, 1)) (k : S fin M R mc ms cs (pc + 1) lv (.int 12 :: st) h f) : S fin M R mc ms cs pc lv (.ref shx :: st) h f := fun r9 hf9 => G.shlen i hi (k r9 hf9)
theorem S.newa {atype : ArrayType} {ty : FieldType} {n : Int32} (t N : Nat) (i : Nat) (hi : M.2.2.2.2[i]? = some (pc, .newarray atype, 2)) (hw : Cond.arrayClass (newarray.typeOf atype) ∈ wl) (hty : newarray.typeOf atype = ty) (htt : ∀ gA : Nat → ClassId, (tysO gA)[t - 1]? = some (gA t, ty)) (hcel : ∀ (gA : Nat → ClassId) (ad : Nat → Nat) (cA : ClassId), ∃ a0 : vp_A, cel gA ad (fun _ => 0) (fun _ => 0) (t, N, []) = .inl (gA t, a0) ∧ vp_cell cA a0 = arrV cA N (fun _ => defaultValue ty)) (hn : ¬ n < 0) (hN : n.toNatClampNeg = N) (hb : N * componentBytes ty ≤ 536870912) (hz : zok Z = true) (hv : vld Z.length lv st = true) (hc1 : cs.1 + 1 ≤ R.cells) (hc2 : cs.2 + N ≤ R.slots) (k : S fin M R mc ms (cs.1 + 1, cs.2 + N) (pc + 2) lv (.ref Z.length :: st) (Z ++ [(t, N, [])], uf I Z.length (fun _ => 0), ufj J Z.length (fun _ => 0)) f) : S fin M R mc ms cs pc lv (.int n :: st) (Z, I, J) f := fun r9 hf9 => G.newa t N i hi hw hty htt hcel hn hN hb hz hv hc1 hc2 (k r9 hf9)
theorem S.new {idx : Nat} (ci N : Nat) {qc : vw_C} (i : Nat) (hi : M.2.2.2.2[i]? = some (pc, .new idx, 3)) (hq : cl_all[ci]? = some qc) (hN : qc.2.2 = N) (hw1 : Cond.classLink M.1.cls idx qc.1 ∈ wl) (hw2 : Cond.instantiable qc.1 N ∈ wl) (hw3 : Cond.initialized qc.1 ∈ wl) (hdf : ∀ j, j < N → defaultValue (ctyp ci j) = fvl id (fun _ => 0) (fun _ => 0) ci (List.replicate N 0) j) (hz : zok Z = true) (hv : vld Z.length lv st = true) (hc1 : cs.1 + 1 ≤ R.cells) (hc2 : cs.2 + N ≤ R.slots) (k : S fin M R mc ms (cs.1 + 1, cs.2 + N) (pc + 3) lv (.ref Z.length :: st) (Z ++ [(0, ci, List.replicate N 0)], uf I Z.length (fun _ => 0), ufj J Z.length (fun _ => 0)) f) : S fin M R mc ms cs pc lv st (Z, I, J) f := fun r9 hf9 => G.new ci N i hi hq hN hw1 hw2 hw3 hdf hz hv hc1 hc2 (k r9 hf9)
theorem S.newq {idx : Nat} {n : Int32} (N : Nat) (i : Nat) (hi : M.2.2.2.2[i]? = some (pc, .anewarray idx, 3)) (hw1 : Cond.classLink M.1.cls idx RX2 ∈ wl) (hn : ¬ n < 0) (hN : n.toNatClampNeg = N) (hb : N * 4 ≤ 536870912) (hz : zok Z = true) (hv : vld Z.length lv st = true) (hc1 : cs.1 + 1 ≤ R.cells) (hc2 : cs.2 + N ≤ R.slots) (k : S fin M R mc ms (cs.1 + 1, cs.2 + N) (pc + 3) lv (.ref Z.length :: st) (Z ++ [(6, N, List.replicate N 0)], uf I Z.length (fun _ => 0), ufj J Z.length (fun _ => 0)) f) : S fin M R mc ms cs pc lv (.int n :: st) (Z, I, J) f := fun r9 hf9 => G.newq N i hi hw1 hn hN hb hz hv hc1 hc2 (k r9 hf9)
theorem S.copyi {F : HI → Option ρ} {idx o0 o1 n0 n1 : Nat} {r0 r1 : List Nat} {sp dp n : Int32} (i : Nat) (hi : M.2.2.2.2[i]? = some (pc, .invokestatic idx, 3)) (hw1 : Cond.methodLink M.1.cls idx arraycopyName ∈ wl) (hw2 : Cond.native arraycopyName ∈ wl) (hw3 : Cond.static arraycopyName ∈ wl) (hw4 : Cond.initialized "java/lang/System" ∈ wl) (hz0 : Z[o0]? = some (1, n0, r0)) (hz1 : Z[o1]? = some (1, n1, r1)) (hf : 1 ≤ R.frames) (hlo : 8 + (nativeFrameWords "java/lang/System" "arraycopy" 5 + 11) ≤ R.locals) (hs : (st.map fun v => v.category).sum ≤ 8) (k : ∀ I1 : HI, S fin M R mc ms cs (pc + 3) lv st (Z, I1, J) (F I1)) : S fin M R mc ms cs pc lv (.int n :: .int dp :: .ref o1 :: .int sp :: .ref o0 :: st) (Z, I, J) (if sp < 0 ∨ dp < 0 ∨ n < 0 ∨ n0 < sp.toNatClampNeg + n.toNatClampNeg ∨ n1 < dp.toNatClampNeg + n.toNatClampNeg then Option.none else lb (uf I o1 (va_cpy (I o0) (I o1) sp.toNatClampNeg dp.toNatClampNeg n.toNatClampNeg)) F) := S.ite (fun _ => S.none) (fun q => fun r9 hf9 => G.copyi i hi hw1 hw2 hw3 hw4 hz0 hz1 (fun z => q (Or.inl z)) (fun z => q (Or.inr (Or.inl z))) (fun z => q (Or.inr (Or.inr (Or.inl z)))) (Nat.not_lt.mp fun z => q (Or.inr (Or.inr (Or.inr (Or.inl z))))) (Nat.not_lt.mp fun z => q (Or.inr (Or.inr (Or.inr (Or.inr z))))) hf hlo hs (k _ r9 hf9))
theorem S.copyl {F : HJ → Option ρ} {idx o0 o1 n0 n1 : Nat} {r0 r1 : List Nat} {sp dp n : Int32} (i : Nat) (hi : M.2.2.2.2[i]? = some (pc, .invokestatic idx, 3)) (hw1 : Cond.methodLink M.1.cls idx arraycopyName ∈ wl) (hw2 : Cond.native arraycopyName ∈ wl) (hw3 : Cond.static arraycopyName ∈ wl) (hw4 : Cond.initialized "java/lang/System" ∈ wl) (hz0 : Z[o0]? = some (2, n0, r0)) (hz1 : Z[o1]? = some (2, n1, r1)) (hf : 1 ≤ R.frames) (hlo : 8 + (nativeFrameWords "java/lang/System" "arraycopy" 5 + 11) ≤ R.locals) (hs : (st.map fun v => v.category).sum ≤ 8) (k : ∀ J1 : HJ, S fin M R mc ms cs (pc + 3) lv st (Z, I, J1) (F J1)) : S fin M R mc ms cs pc lv (.int n :: .int dp :: .ref o1 :: .int sp :: .ref o0 :: st) (Z, I, J) (if sp < 0 ∨ dp < 0 ∨ n < 0 ∨ n0 < sp.toNatClampNeg + n.toNatClampNeg ∨ n1 < dp.toNatClampNeg + n.toNatClampNeg then Option.none else lb (ufj J o1 (va_cpy (J o0) (J o1) sp.toNatClampNeg dp.toNatClampNeg n.toNatClampNeg)) F) := S.ite (fun _ => S.none) (fun q => fun r9 hf9 => G.copyl i hi hw1 hw2 hw3 hw4 hz0 hz1 (fun z => q (Or.inl z)) (fun z => q (Or.inr (Or.inl z))) (fun z => q (Or.inr (Or.inr (Or.inl z)))) (Nat.not_lt.mp fun z => q (Or.inr (Or.inr (Or.inr (Or.inl z))))) (Nat.not_lt.mp fun z => q (Or.inr (Or.inr (Or.inr (Or.inr z))))) hf hlo hs (k _ r9 hf9))
theorem S.objI {idx b : Nat} (i : Nat) (hi : M.2.2.2.2[i]? = some (pc, .invokespecial idx, 3)) (hw1 : Cond.methodLink M.1.cls idx objectInit ∈ wl) (hw2 : Cond.instanceMethod objectInit ∈ wl) (hw3 : Cond.code objectInit ⟨#[0xb1]⟩ 1 Option.none ∈ wl) (hf : 1 ≤ R.frames) (hlo : 20 ≤ R.locals) (hs : (st.map fun v => v.category).sum ≤ 8) (k : S fin M R mc ms cs (pc + 3) lv st h f) : S fin M R mc ms cs pc lv (.ref b :: st) h f := fun r9 hf9 => G.objI i hi hw1 hw2 hw3 hf hlo hs (k r9 hf9)
theorem S.callV {τ : Type} {fn : Fin' τ} {fc : Option τ} {F : τ → Option ρ} {idx n d mc' ms' b ci : Nat} {M' : MD} {av rs : List Value} {rr : List Nat} (i : Nat) (hi : M.2.2.2.2[i]? = some (pc, .invokevirtual idx, 3)) (ho : VOk M.1.cls idx M' n) (hn : av.length = n) (hrs : av.reverse = rs) {qc : vw_C} (hq : cl_all[ci]? = some qc) (hqc : qc.1 = M'.1.cls) (hz : h.1[b]? = some (0, ci, rr)) (hR : rOk R cs M' d mc' ms' st) (hM : CM M' d mc' ms' (.ref b :: av) h fn fc) (hv : vld h.1.length lv st = true ∨ ∀ r, (fn r).2.1.length = h.1.length)
    (k : ∀ r, S fin M R mc ms (cs.1 + mc', cs.2 + ms') (pc + 3) lv ((fn r).1.toList ++ st) (fn r).2 (F r)) : S fin M R mc ms cs pc lv (rs ++ .ref b :: st) h (fc.bind F) := by
  intro r hf
  cases hc : fc with
  | none => rw [hc] at hf; cases hf
  | some q =>
    rw [hc] at hf
    refine G.callV i hi ho hn hrs hq hqc hz hR (hM q hc) (hv.imp id (fun z v h' e => ?_)) (fun v h' e => ?_)
    · have e2 : h' = (fn q).2 := congrArg Prod.snd e
      rw [e2]; exact z q
    · have e1 : v = (fn q).1 := congrArg Prod.fst e
      have e2 : h' = (fn q).2 := congrArg Prod.snd e
      rw [e1, e2]; exact k q r hf
theorem S.callS {τ : Type} {fn : Fin' τ} {fc : Option τ} {F : τ → Option ρ} {idx n d mc' ms' : Nat} {M' : MD} {av rs : List Value} (i : Nat) (hi : M.2.2.2.2[i]? = some (pc, .invokestatic idx, 3)) (ho : SOk M.1.cls idx M' n) (hn : av.length = n) (hrs : av.reverse = rs) (hR : rOk R cs M' d mc' ms' st) (hM : CM M' d mc' ms' (av) h fn fc) (hv : vld h.1.length lv st = true ∨ ∀ r, (fn r).2.1.length = h.1.length)
    (k : ∀ r, S fin M R mc ms (cs.1 + mc', cs.2 + ms') (pc + 3) lv ((fn r).1.toList ++ st) (fn r).2 (F r)) : S fin M R mc ms cs pc lv (rs ++ st) h (fc.bind F) := by
  intro r hf
  cases hc : fc with
  | none => rw [hc] at hf; cases hf
  | some q =>
    rw [hc] at hf
    refine G.callS i hi ho hn hrs hR (hM q hc) (hv.imp id (fun z v h' e => ?_)) (fun v h' e => ?_)
    · have e2 : h' = (fn q).2 := congrArg Prod.snd e
      rw [e2]; exact z q
    · have e1 : v = (fn q).1 := congrArg Prod.fst e
      have e2 : h' = (fn q).2 := congrArg Prod.snd e
      rw [e1, e2]; exact k q r hf
theorem S.callSN {τ : Type} {fn : Fin' τ} {fc : Option τ} {F : τ → Option ρ} {idx n d mc' ms' : Nat} {M' : MD} {av rs : List Value} (i : Nat) (hi : M.2.2.2.2[i]? = some (pc, .invokestatic idx, 3)) (ho : SNOk M.1.cls idx M' n) (hn : av.length = n) (hrs : av.reverse = rs) (hR : rOk R cs M' d mc' ms' st) (hM : CM M' d mc' ms' (av) h fn fc) (hv : vld h.1.length lv st = true ∨ ∀ r, (fn r).2.1.length = h.1.length)
    (k : ∀ r, S fin M R mc ms (cs.1 + mc', cs.2 + ms') (pc + 3) lv ((fn r).1.toList ++ st) (fn r).2 (F r)) : S fin M R mc ms cs pc lv (rs ++ st) h (fc.bind F) := by
  intro r hf
  cases hc : fc with
  | none => rw [hc] at hf; cases hf
  | some q =>
    rw [hc] at hf
    refine G.callSN i hi ho hn hrs hR (hM q hc) (hv.imp id (fun z v h' e => ?_)) (fun v h' e => ?_)
    · have e2 : h' = (fn q).2 := congrArg Prod.snd e
      rw [e2]; exact z q
    · have e1 : v = (fn q).1 := congrArg Prod.fst e
      have e2 : h' = (fn q).2 := congrArg Prod.snd e
      rw [e1, e2]; exact k q r hf
theorem S.callI {τ : Type} {fn : Fin' τ} {fc : Option τ} {F : τ → Option ρ} {idx n d mc' ms' b : Nat} {M' : MD} {av rs : List Value} (i : Nat) (hi : M.2.2.2.2[i]? = some (pc, .invokespecial idx, 3)) (ho : IOk M.1.cls idx M' n) (hn : av.length = n) (hrs : av.reverse = rs) (hR : rOk R cs M' d mc' ms' st) (hM : CM M' d mc' ms' (.ref b :: av) h fn fc) (hv : vld h.1.length lv st = true ∨ ∀ r, (fn r).2.1.length = h.1.length)
    (k : ∀ r, S fin M R mc ms (cs.1 + mc', cs.2 + ms') (pc + 3) lv ((fn r).1.toList ++ st) (fn r).2 (F r)) : S fin M R mc ms cs pc lv (rs ++ .ref b :: st) h (fc.bind F) := by
  intro r hf
  cases hc : fc with
  | none => rw [hc] at hf; cases hf
  | some q =>
    rw [hc] at hf
    refine G.callI i hi ho hn hrs hR (hM q hc) (hv.imp id (fun z v h' e => ?_)) (fun v h' e => ?_)
    · have e2 : h' = (fn q).2 := congrArg Prod.snd e
      rw [e2]; exact z q
    · have e1 : v = (fn q).1 := congrArg Prod.fst e
      have e2 : h' = (fn q).2 := congrArg Prod.snd e
      rw [e1, e2]; exact k q r hf
theorem S.callIN {τ : Type} {fn : Fin' τ} {fc : Option τ} {F : τ → Option ρ} {idx n d mc' ms' b : Nat} {M' : MD} {av rs : List Value} (i : Nat) (hi : M.2.2.2.2[i]? = some (pc, .invokespecial idx, 3)) (ho : INOk M.1.cls idx M' n) (hn : av.length = n) (hrs : av.reverse = rs) (hR : rOk R cs M' d mc' ms' st) (hM : CM M' d mc' ms' (.ref b :: av) h fn fc) (hv : vld h.1.length lv st = true ∨ ∀ r, (fn r).2.1.length = h.1.length)
    (k : ∀ r, S fin M R mc ms (cs.1 + mc', cs.2 + ms') (pc + 3) lv ((fn r).1.toList ++ st) (fn r).2 (F r)) : S fin M R mc ms cs pc lv (rs ++ .ref b :: st) h (fc.bind F) := by
  intro r hf
  cases hc : fc with
  | none => rw [hc] at hf; cases hf
  | some q =>
    rw [hc] at hf
    refine G.callIN i hi ho hn hrs hR (hM q hc) (hv.imp id (fun z v h' e => ?_)) (fun v h' e => ?_)
    · have e2 : h' = (fn q).2 := congrArg Prod.snd e
      rw [e2]; exact z q
    · have e1 : v = (fn q).1 := congrArg Prod.fst e
      have e2 : h' = (fn q).2 := congrArg Prod.snd e
      rw [e1, e2]; exact k q r hf
end SR

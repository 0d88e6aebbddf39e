/-! the law's cases, each out of what its two computations answer -/
set_option maxRecDepth 100000 in
theorem lc_0 {L : Nat} {xs : Nat → Int32} {E : Ex} {cs : Nat × Nat} (b : Bool) (x a1 a2 a3 a4 : Int32) (I : HI) (J : HJ) (hcs : cs.1 + 2 ≤ 399528 ∧ cs.2 + 59392 ≤ 7902896) (h1 : vp_in (x + (1 : Int32)) L) (h2 : vp_in (x + (2 : Int32)) L) (h3 : vp_in (x + (3 : Int32)) L) (h4 : vp_in (x + (4 : Int32)) L) (e1 : xs (x + (1 : Int32)).toNatClampNeg = a1) (e2 : xs (x + (2 : Int32)).toNatClampNeg = a2) (e3 : xs (x + (3 : Int32)).toNatClampNeg = a3) (e4 : xs (x + (4 : Int32)).toNatClampNeg = a4) (r : Int32) (I1 : HI) (J1 : HJ) (I2 : HI) (J2 : HJ) (hX : F_X11_sign a1 I J = some (r, I1, J1)) (hM : F_X12_sign a1 I1 J1 = some (r, I2, J2)) (k : GL L xs E cs 1721 (lvL x) [] (zs b, I2, J2)) : GL L xs E cs 244 (lvL x) [] (zs b, I, J) := by
  refine GL.g (fun _ k => G.aload_n 25 1 rfl rfl k) ?_
  refine GL.g (fun _ k => G.aload_n 26 0 rfl rfl k) ?_
  refine GL.g (fun _ k => G.iload 27 4 rfl rfl k) ?_
  refine GL.g (fun _ k => G.iconst (1 : Int32) 28 rfl (by decide) k) ?_
  refine GL.g (fun _ k => G.iadd 29 rfl k) ?_
  refine GL.sld 30 rfl h1 e1 ?_
  refine GL.cV (d := 2) (mc := 0) (ms := 0) (av := [.int a1]) (rs := [.int a1]) (b := 0) (r, I1, J1) hX 31 rfl co_L_26 rfl rfl rfl rfl rfl ⟨⟨Nat.le_of_ble_eq_true rfl, Nat.le_of_ble_eq_true rfl⟩, ⟨by show _ ≤ 399528; omega, by show _ ≤ 7902896; omega⟩, Nat.le_of_ble_eq_true rfl⟩ (cm_X11_sign b a1 I J) (Or.inr rfl) ?_
  show GL L xs E cs 254 [(0, .ref scx), (1, .ref 0), (2, .ref 81), (3, .ref 128), (4, .int x)] [.int r] (zs b, I1, J1)
  refine GL.g (fun _ k => G.aload_n 32 2 rfl rfl k) ?_
  refine GL.g (fun _ k => G.aload_n 33 0 rfl rfl k) ?_
  refine GL.g (fun _ k => G.iload 34 4 rfl rfl k) ?_
  refine GL.g (fun _ k => G.iconst (1 : Int32) 35 rfl (by decide) k) ?_
  refine GL.g (fun _ k => G.iadd 36 rfl k) ?_
  refine GL.sld 37 rfl h1 e1 ?_
  refine GL.cV (d := 1) (mc := 0) (ms := 0) (av := [.int a1]) (rs := [.int a1]) (b := 81) (r, I2, J2) hM 38 rfl co_L_30 rfl rfl rfl rfl rfl ⟨⟨Nat.le_of_ble_eq_true rfl, Nat.le_of_ble_eq_true rfl⟩, ⟨by show _ ≤ 399528; omega, by show _ ≤ 7902896; omega⟩, Nat.le_of_ble_eq_true rfl⟩ (cm_X12_sign b a1 I1 J1) (Or.inr rfl) ?_
  show GL L xs E cs 264 [(0, .ref scx), (1, .ref 0), (2, .ref 81), (3, .ref 128), (4, .int x)] [.int r, .int r] (zs b, I2, J2)
  refine GL.same 1721 39 rfl (by decide) ?_
  exact k
set_option maxRecDepth 100000 in
theorem lc_1 {L : Nat} {xs : Nat → Int32} {E : Ex} {cs : Nat × Nat} (b : Bool) (x a1 a2 a3 a4 : Int32) (I : HI) (J : HJ) (hcs : cs.1 + 2 ≤ 399528 ∧ cs.2 + 59392 ≤ 7902896) (h1 : vp_in (x + (1 : Int32)) L) (h2 : vp_in (x + (2 : Int32)) L) (h3 : vp_in (x + (3 : Int32)) L) (h4 : vp_in (x + (4 : Int32)) L) (e1 : xs (x + (1 : Int32)).toNatClampNeg = a1) (e2 : xs (x + (2 : Int32)).toNatClampNeg = a2) (e3 : xs (x + (3 : Int32)).toNatClampNeg = a3) (e4 : xs (x + (4 : Int32)).toNatClampNeg = a4) (r : Int32) (I1 : HI) (J1 : HJ) (I2 : HI) (J2 : HJ) (hX : F_X11_end a1 I J = some (r, I1, J1)) (hM : F_X12_end a1 I1 J1 = some (r, I2, J2)) (k : GL L xs E cs 1721 (lvL x) [] (zs b, I2, J2)) : GL L xs E cs 269 (lvL x) [] (zs b, I, J) := by
  refine GL.g (fun _ k => G.aload_n 42 1 rfl rfl k) ?_
  refine GL.g (fun _ k => G.aload_n 43 0 rfl rfl k) ?_
  refine GL.g (fun _ k => G.iload 44 4 rfl rfl k) ?_
  refine GL.g (fun _ k => G.iconst (1 : Int32) 45 rfl (by decide) k) ?_
  refine GL.g (fun _ k => G.iadd 46 rfl k) ?_
  refine GL.sld 47 rfl h1 e1 ?_
  refine GL.cV (d := 1) (mc := 0) (ms := 0) (av := [.int a1]) (rs := [.int a1]) (b := 0) (r, I1, J1) hX 48 rfl co_L_31 rfl rfl rfl rfl rfl ⟨⟨Nat.le_of_ble_eq_true rfl, Nat.le_of_ble_eq_true rfl⟩, ⟨by show _ ≤ 399528; omega, by show _ ≤ 7902896; omega⟩, Nat.le_of_ble_eq_true rfl⟩ (cm_X11_end b a1 I J) (Or.inr rfl) ?_
  show GL L xs E cs 279 [(0, .ref scx), (1, .ref 0), (2, .ref 81), (3, .ref 128), (4, .int x)] [.int r] (zs b, I1, J1)
  refine GL.g (fun _ k => G.aload_n 49 2 rfl rfl k) ?_
  refine GL.g (fun _ k => G.aload_n 50 0 rfl rfl k) ?_
  refine GL.g (fun _ k => G.iload 51 4 rfl rfl k) ?_
  refine GL.g (fun _ k => G.iconst (1 : Int32) 52 rfl (by decide) k) ?_
  refine GL.g (fun _ k => G.iadd 53 rfl k) ?_
  refine GL.sld 54 rfl h1 e1 ?_
  refine GL.cV (d := 2) (mc := 0) (ms := 0) (av := [.int a1]) (rs := [.int a1]) (b := 81) (r, I2, J2) hM 55 rfl co_L_35 rfl rfl rfl rfl rfl ⟨⟨Nat.le_of_ble_eq_true rfl, Nat.le_of_ble_eq_true rfl⟩, ⟨by show _ ≤ 399528; omega, by show _ ≤ 7902896; omega⟩, Nat.le_of_ble_eq_true rfl⟩ (cm_X12_end b a1 I1 J1) (Or.inr rfl) ?_
  show GL L xs E cs 289 [(0, .ref scx), (1, .ref 0), (2, .ref 81), (3, .ref 128), (4, .int x)] [.int r, .int r] (zs b, I2, J2)
  refine GL.same 1721 56 rfl (by decide) ?_
  exact k
set_option maxRecDepth 100000 in
theorem lc_2 {L : Nat} {xs : Nat → Int32} {E : Ex} {cs : Nat × Nat} (b : Bool) (x a1 a2 a3 a4 : Int32) (I : HI) (J : HJ) (hcs : cs.1 + 2 ≤ 399528 ∧ cs.2 + 59392 ≤ 7902896) (h1 : vp_in (x + (1 : Int32)) L) (h2 : vp_in (x + (2 : Int32)) L) (h3 : vp_in (x + (3 : Int32)) L) (h4 : vp_in (x + (4 : Int32)) L) (e1 : xs (x + (1 : Int32)).toNatClampNeg = a1) (e2 : xs (x + (2 : Int32)).toNatClampNeg = a2) (e3 : xs (x + (3 : Int32)).toNatClampNeg = a3) (e4 : xs (x + (4 : Int32)).toNatClampNeg = a4) (r : Int32) (I1 : HI) (J1 : HJ) (I2 : HI) (J2 : HJ) (hX : F_X11_board I J = some (r, I1, J1)) (hM : F_X12_board I1 J1 = some (r, I2, J2)) (k : GL L xs E cs 1721 (lvL x) [] (zs b, I2, J2)) : GL L xs E cs 294 (lvL x) [] (zs b, I, J) := by
  refine GL.g (fun _ k => G.aload_n 59 1 rfl rfl k) ?_
  refine GL.cV (d := 6) (mc := 0) (ms := 0) (av := []) (rs := []) (b := 0) (r, I1, J1) hX 60 rfl co_L_36 rfl rfl rfl rfl rfl ⟨⟨Nat.le_of_ble_eq_true rfl, Nat.le_of_ble_eq_true rfl⟩, ⟨by show _ ≤ 399528; omega, by show _ ≤ 7902896; omega⟩, Nat.le_of_ble_eq_true rfl⟩ (cm_X11_board b I J) (Or.inr rfl) ?_
  show GL L xs E cs 298 [(0, .ref scx), (1, .ref 0), (2, .ref 81), (3, .ref 128), (4, .int x)] [.int r] (zs b, I1, J1)
  refine GL.g (fun _ k => G.aload_n 61 2 rfl rfl k) ?_
  refine GL.cV (d := 4) (mc := 0) (ms := 0) (av := []) (rs := []) (b := 81) (r, I2, J2) hM 62 rfl co_L_40 rfl rfl rfl rfl rfl ⟨⟨Nat.le_of_ble_eq_true rfl, Nat.le_of_ble_eq_true rfl⟩, ⟨by show _ ≤ 399528; omega, by show _ ≤ 7902896; omega⟩, Nat.le_of_ble_eq_true rfl⟩ (cm_X12_board b I1 J1) (Or.inr rfl) ?_
  show GL L xs E cs 302 [(0, .ref scx), (1, .ref 0), (2, .ref 81), (3, .ref 128), (4, .int x)] [.int r, .int r] (zs b, I2, J2)
  refine GL.same 1721 63 rfl (by decide) ?_
  exact k
set_option maxRecDepth 100000 in
theorem lc_3 {L : Nat} {xs : Nat → Int32} {E : Ex} {cs : Nat × Nat} (b : Bool) (x a1 a2 a3 a4 : Int32) (I : HI) (J : HJ) (hcs : cs.1 + 2 ≤ 399528 ∧ cs.2 + 59392 ≤ 7902896) (h1 : vp_in (x + (1 : Int32)) L) (h2 : vp_in (x + (2 : Int32)) L) (h3 : vp_in (x + (3 : Int32)) L) (h4 : vp_in (x + (4 : Int32)) L) (e1 : xs (x + (1 : Int32)).toNatClampNeg = a1) (e2 : xs (x + (2 : Int32)).toNatClampNeg = a2) (e3 : xs (x + (3 : Int32)).toNatClampNeg = a3) (e4 : xs (x + (4 : Int32)).toNatClampNeg = a4) (r : Int32) (I1 : HI) (J1 : HJ) (I2 : HI) (J2 : HJ) (hX : F_X11_set a1 a2 I J = some (r, I1, J1)) (hM : F_X12_set a1 a2 I1 J1 = some (r, I2, J2)) (k : GL L xs E cs 1721 (lvL x) [] (zs b, I2, J2)) : GL L xs E cs 307 (lvL x) [] (zs b, I, J) := by
  refine GL.g (fun _ k => G.aload_n 66 1 rfl rfl k) ?_
  refine GL.g (fun _ k => G.aload_n 67 0 rfl rfl k) ?_
  refine GL.g (fun _ k => G.iload 68 4 rfl rfl k) ?_
  refine GL.g (fun _ k => G.iconst (1 : Int32) 69 rfl (by decide) k) ?_
  refine GL.g (fun _ k => G.iadd 70 rfl k) ?_
  refine GL.sld 71 rfl h1 e1 ?_
  refine GL.g (fun _ k => G.aload_n 72 0 rfl rfl k) ?_
  refine GL.g (fun _ k => G.iload 73 4 rfl rfl k) ?_
  refine GL.g (fun _ k => G.iconst (2 : Int32) 74 rfl (by decide) k) ?_
  refine GL.g (fun _ k => G.iadd 75 rfl k) ?_
  refine GL.sld 76 rfl h2 e2 ?_
  refine GL.cV (d := 1) (mc := 0) (ms := 0) (av := [.int a1, .int a2]) (rs := [.int a2, .int a1]) (b := 0) (r, I1, J1) hX 77 rfl co_L_41 rfl rfl rfl rfl rfl ⟨⟨Nat.le_of_ble_eq_true rfl, Nat.le_of_ble_eq_true rfl⟩, ⟨by show _ ≤ 399528; omega, by show _ ≤ 7902896; omega⟩, Nat.le_of_ble_eq_true rfl⟩ (cm_X11_set b a1 a2 I J) (Or.inr rfl) ?_
  show GL L xs E cs 323 [(0, .ref scx), (1, .ref 0), (2, .ref 81), (3, .ref 128), (4, .int x)] [.int r] (zs b, I1, J1)
  refine GL.g (fun _ k => G.aload_n 78 2 rfl rfl k) ?_
  refine GL.g (fun _ k => G.aload_n 79 0 rfl rfl k) ?_
  refine GL.g (fun _ k => G.iload 80 4 rfl rfl k) ?_
  refine GL.g (fun _ k => G.iconst (1 : Int32) 81 rfl (by decide) k) ?_
  refine GL.g (fun _ k => G.iadd 82 rfl k) ?_
  refine GL.sld 83 rfl h1 e1 ?_
  refine GL.g (fun _ k => G.aload_n 84 0 rfl rfl k) ?_
  refine GL.g (fun _ k => G.iload 85 4 rfl rfl k) ?_
  refine GL.g (fun _ k => G.iconst (2 : Int32) 86 rfl (by decide) k) ?_
  refine GL.g (fun _ k => G.iadd 87 rfl k) ?_
  refine GL.sld 88 rfl h2 e2 ?_
  refine GL.cV (d := 2) (mc := 0) (ms := 0) (av := [.int a1, .int a2]) (rs := [.int a2, .int a1]) (b := 81) (r, I2, J2) hM 89 rfl co_L_44 rfl rfl rfl rfl rfl ⟨⟨Nat.le_of_ble_eq_true rfl, Nat.le_of_ble_eq_true rfl⟩, ⟨by show _ ≤ 399528; omega, by show _ ≤ 7902896; omega⟩, Nat.le_of_ble_eq_true rfl⟩ (cm_X12_set b a1 a2 I1 J1) (Or.inr rfl) ?_
  show GL L xs E cs 339 [(0, .ref scx), (1, .ref 0), (2, .ref 81), (3, .ref 128), (4, .int x)] [.int r, .int r] (zs b, I2, J2)
  refine GL.same 1721 90 rfl (by decide) ?_
  exact k
set_option maxRecDepth 100000 in
theorem lc_5 {L : Nat} {xs : Nat → Int32} {E : Ex} {cs : Nat × Nat} (b : Bool) (x a1 a2 a3 a4 : Int32) (I : HI) (J : HJ) (hcs : cs.1 + 2 ≤ 399528 ∧ cs.2 + 59392 ≤ 7902896) (h1 : vp_in (x + (1 : Int32)) L) (h2 : vp_in (x + (2 : Int32)) L) (h3 : vp_in (x + (3 : Int32)) L) (h4 : vp_in (x + (4 : Int32)) L) (e1 : xs (x + (1 : Int32)).toNatClampNeg = a1) (e2 : xs (x + (2 : Int32)).toNatClampNeg = a2) (e3 : xs (x + (3 : Int32)).toNatClampNeg = a3) (e4 : xs (x + (4 : Int32)).toNatClampNeg = a4) (r : Int32) (I2 : HI) (J2 : HJ) (hX : F_X11_ohms a1 I J = some r) (hM : F_X12_ohms a1 I J = some (r, I2, J2)) (k : GL L xs E cs 1721 (lvL x) [] (zs b, I2, J2)) : GL L xs E cs 412 (lvL x) [] (zs b, I, J) := by
  refine GL.g (fun _ k => G.aload_n 138 1 rfl rfl k) ?_
  refine GL.g (fun _ k => G.aload_n 139 0 rfl rfl k) ?_
  refine GL.g (fun _ k => G.iload 140 4 rfl rfl k) ?_
  refine GL.g (fun _ k => G.iconst (1 : Int32) 141 rfl (by decide) k) ?_
  refine GL.g (fun _ k => G.iadd 142 rfl k) ?_
  refine GL.sld 143 rfl h1 e1 ?_
  refine GL.cV (d := 2) (mc := 0) (ms := 0) (av := [.int a1]) (rs := [.int a1]) (b := 0) r hX 144 rfl co_L_54 rfl rfl rfl rfl rfl ⟨⟨Nat.le_of_ble_eq_true rfl, Nat.le_of_ble_eq_true rfl⟩, ⟨by show _ ≤ 399528; omega, by show _ ≤ 7902896; omega⟩, Nat.le_of_ble_eq_true rfl⟩ (cm_X11_ohms b a1 I J) (Or.inr rfl) ?_
  show GL L xs E cs 422 [(0, .ref scx), (1, .ref 0), (2, .ref 81), (3, .ref 128), (4, .int x)] [.int r] (zs b, I, J)
  refine GL.g (fun _ k => G.aload_n 145 2 rfl rfl k) ?_
  refine GL.g (fun _ k => G.aload_n 146 0 rfl rfl k) ?_
  refine GL.g (fun _ k => G.iload 147 4 rfl rfl k) ?_
  refine GL.g (fun _ k => G.iconst (1 : Int32) 148 rfl (by decide) k) ?_
  refine GL.g (fun _ k => G.iadd 149 rfl k) ?_
  refine GL.sld 150 rfl h1 e1 ?_
  refine GL.cV (d := 3) (mc := 0) (ms := 0) (av := [.int a1]) (rs := [.int a1]) (b := 81) (r, I2, J2) hM 151 rfl co_L_57 rfl rfl rfl rfl rfl ⟨⟨Nat.le_of_ble_eq_true rfl, Nat.le_of_ble_eq_true rfl⟩, ⟨by show _ ≤ 399528; omega, by show _ ≤ 7902896; omega⟩, Nat.le_of_ble_eq_true rfl⟩ (cm_X12_ohms b a1 I J) (Or.inr rfl) ?_
  show GL L xs E cs 432 [(0, .ref scx), (1, .ref 0), (2, .ref 81), (3, .ref 128), (4, .int x)] [.int r, .int r] (zs b, I2, J2)
  refine GL.same 1721 152 rfl (by decide) ?_
  exact k
set_option maxRecDepth 100000 in
theorem lc_6 {L : Nat} {xs : Nat → Int32} {E : Ex} {cs : Nat × Nat} (b : Bool) (x a1 a2 a3 a4 : Int32) (I : HI) (J : HJ) (hcs : cs.1 + 2 ≤ 399528 ∧ cs.2 + 59392 ≤ 7902896) (h1 : vp_in (x + (1 : Int32)) L) (h2 : vp_in (x + (2 : Int32)) L) (h3 : vp_in (x + (3 : Int32)) L) (h4 : vp_in (x + (4 : Int32)) L) (e1 : xs (x + (1 : Int32)).toNatClampNeg = a1) (e2 : xs (x + (2 : Int32)).toNatClampNeg = a2) (e3 : xs (x + (3 : Int32)).toNatClampNeg = a3) (e4 : xs (x + (4 : Int32)).toNatClampNeg = a4) (r : Int32) (I1 : HI) (J1 : HJ) (I2 : HI) (J2 : HJ) (hX : F_X11_sheet a1 a2 a3 a4 I J = some (r, I1, J1)) (hM : F_X12_sheet a1 a2 a3 a4 I1 J1 = some (r, I2, J2)) (k : GL L xs E cs 1721 (lvL x) [] (zs b, I2, J2)) : GL L xs E cs 437 (lvL x) [] (zs b, I, J) := by
  refine GL.g (fun _ k => G.aload_n 155 1 rfl rfl k) ?_
  refine GL.g (fun _ k => G.aload_n 156 0 rfl rfl k) ?_
  refine GL.g (fun _ k => G.iload 157 4 rfl rfl k) ?_
  refine GL.g (fun _ k => G.iconst (1 : Int32) 158 rfl (by decide) k) ?_
  refine GL.g (fun _ k => G.iadd 159 rfl k) ?_
  refine GL.sld 160 rfl h1 e1 ?_
  refine GL.g (fun _ k => G.aload_n 161 0 rfl rfl k) ?_
  refine GL.g (fun _ k => G.iload 162 4 rfl rfl k) ?_
  refine GL.g (fun _ k => G.iconst (2 : Int32) 163 rfl (by decide) k) ?_
  refine GL.g (fun _ k => G.iadd 164 rfl k) ?_
  refine GL.sld 165 rfl h2 e2 ?_
  refine GL.g (fun _ k => G.aload_n 166 0 rfl rfl k) ?_
  refine GL.g (fun _ k => G.iload 167 4 rfl rfl k) ?_
  refine GL.g (fun _ k => G.iconst (3 : Int32) 168 rfl (by decide) k) ?_
  refine GL.g (fun _ k => G.iadd 169 rfl k) ?_
  refine GL.sld 170 rfl h3 e3 ?_
  refine GL.g (fun _ k => G.aload_n 171 0 rfl rfl k) ?_
  refine GL.g (fun _ k => G.iload 172 4 rfl rfl k) ?_
  refine GL.g (fun _ k => G.iconst (4 : Int32) 173 rfl (by decide) k) ?_
  refine GL.g (fun _ k => G.iadd 174 rfl k) ?_
  refine GL.sld 175 rfl h4 e4 ?_
  refine GL.cV (d := 2) (mc := 0) (ms := 0) (av := [.int a1, .int a2, .int a3, .int a4]) (rs := [.int a4, .int a3, .int a2, .int a1]) (b := 0) (r, I1, J1) hX 176 rfl co_L_58 rfl rfl rfl rfl rfl ⟨⟨Nat.le_of_ble_eq_true rfl, Nat.le_of_ble_eq_true rfl⟩, ⟨by show _ ≤ 399528; omega, by show _ ≤ 7902896; omega⟩, Nat.le_of_ble_eq_true rfl⟩ (cm_X11_sheet b a1 a2 a3 a4 I J) (Or.inr rfl) ?_
  show GL L xs E cs 465 [(0, .ref scx), (1, .ref 0), (2, .ref 81), (3, .ref 128), (4, .int x)] [.int r] (zs b, I1, J1)
  refine GL.g (fun _ k => G.aload_n 177 2 rfl rfl k) ?_
  refine GL.g (fun _ k => G.aload_n 178 0 rfl rfl k) ?_
  refine GL.g (fun _ k => G.iload 179 4 rfl rfl k) ?_
  refine GL.g (fun _ k => G.iconst (1 : Int32) 180 rfl (by decide) k) ?_
  refine GL.g (fun _ k => G.iadd 181 rfl k) ?_
  refine GL.sld 182 rfl h1 e1 ?_
  refine GL.g (fun _ k => G.aload_n 183 0 rfl rfl k) ?_
  refine GL.g (fun _ k => G.iload 184 4 rfl rfl k) ?_
  refine GL.g (fun _ k => G.iconst (2 : Int32) 185 rfl (by decide) k) ?_
  refine GL.g (fun _ k => G.iadd 186 rfl k) ?_
  refine GL.sld 187 rfl h2 e2 ?_
  refine GL.g (fun _ k => G.aload_n 188 0 rfl rfl k) ?_
  refine GL.g (fun _ k => G.iload 189 4 rfl rfl k) ?_
  refine GL.g (fun _ k => G.iconst (3 : Int32) 190 rfl (by decide) k) ?_
  refine GL.g (fun _ k => G.iadd 191 rfl k) ?_
  refine GL.sld 192 rfl h3 e3 ?_
  refine GL.g (fun _ k => G.aload_n 193 0 rfl rfl k) ?_
  refine GL.g (fun _ k => G.iload 194 4 rfl rfl k) ?_
  refine GL.g (fun _ k => G.iconst (4 : Int32) 195 rfl (by decide) k) ?_
  refine GL.g (fun _ k => G.iadd 196 rfl k) ?_
  refine GL.sld 197 rfl h4 e4 ?_
  refine GL.cV (d := 2) (mc := 0) (ms := 0) (av := [.int a1, .int a2, .int a3, .int a4]) (rs := [.int a4, .int a3, .int a2, .int a1]) (b := 81) (r, I2, J2) hM 198 rfl co_L_62 rfl rfl rfl rfl rfl ⟨⟨Nat.le_of_ble_eq_true rfl, Nat.le_of_ble_eq_true rfl⟩, ⟨by show _ ≤ 399528; omega, by show _ ≤ 7902896; omega⟩, Nat.le_of_ble_eq_true rfl⟩ (cm_X12_sheet b a1 a2 a3 a4 I1 J1) (Or.inr rfl) ?_
  show GL L xs E cs 493 [(0, .ref scx), (1, .ref 0), (2, .ref 81), (3, .ref 128), (4, .int x)] [.int r, .int r] (zs b, I2, J2)
  refine GL.same 1721 199 rfl (by decide) ?_
  exact k
set_option maxRecDepth 100000 in
theorem lc_7 {L : Nat} {xs : Nat → Int32} {E : Ex} {cs : Nat × Nat} (b : Bool) (x a1 a2 a3 a4 : Int32) (I : HI) (J : HJ) (hcs : cs.1 + 2 ≤ 399528 ∧ cs.2 + 59392 ≤ 7902896) (h1 : vp_in (x + (1 : Int32)) L) (h2 : vp_in (x + (2 : Int32)) L) (h3 : vp_in (x + (3 : Int32)) L) (h4 : vp_in (x + (4 : Int32)) L) (e1 : xs (x + (1 : Int32)).toNatClampNeg = a1) (e2 : xs (x + (2 : Int32)).toNatClampNeg = a2) (e3 : xs (x + (3 : Int32)).toNatClampNeg = a3) (e4 : xs (x + (4 : Int32)).toNatClampNeg = a4) (r : Int32) (I1 : HI) (J1 : HJ) (I2 : HI) (J2 : HJ) (hX : F_X11_swap a1 a2 I J = some (r, I1, J1)) (hM : F_X12_swap a1 a2 I1 J1 = some (r, I2, J2)) (k : GL L xs E cs 1721 (lvL x) [] (zs b, I2, J2)) : GL L xs E cs 498 (lvL x) [] (zs b, I, J) := by
  refine GL.g (fun _ k => G.aload_n 202 1 rfl rfl k) ?_
  refine GL.g (fun _ k => G.aload_n 203 0 rfl rfl k) ?_
  refine GL.g (fun _ k => G.iload 204 4 rfl rfl k) ?_
  refine GL.g (fun _ k => G.iconst (1 : Int32) 205 rfl (by decide) k) ?_
  refine GL.g (fun _ k => G.iadd 206 rfl k) ?_
  refine GL.sld 207 rfl h1 e1 ?_
  refine GL.g (fun _ k => G.aload_n 208 0 rfl rfl k) ?_
  refine GL.g (fun _ k => G.iload 209 4 rfl rfl k) ?_
  refine GL.g (fun _ k => G.iconst (2 : Int32) 210 rfl (by decide) k) ?_
  refine GL.g (fun _ k => G.iadd 211 rfl k) ?_
  refine GL.sld 212 rfl h2 e2 ?_
  refine GL.cV (d := 4) (mc := 0) (ms := 0) (av := [.int a1, .int a2]) (rs := [.int a2, .int a1]) (b := 0) (r, I1, J1) hX 213 rfl co_L_63 rfl rfl rfl rfl rfl ⟨⟨Nat.le_of_ble_eq_true rfl, Nat.le_of_ble_eq_true rfl⟩, ⟨by show _ ≤ 399528; omega, by show _ ≤ 7902896; omega⟩, Nat.le_of_ble_eq_true rfl⟩ (cm_X11_swap b a1 a2 I J) (Or.inr rfl) ?_
  show GL L xs E cs 514 [(0, .ref scx), (1, .ref 0), (2, .ref 81), (3, .ref 128), (4, .int x)] [.int r] (zs b, I1, J1)
  refine GL.g (fun _ k => G.aload_n 214 2 rfl rfl k) ?_
  refine GL.g (fun _ k => G.aload_n 215 0 rfl rfl k) ?_
  refine GL.g (fun _ k => G.iload 216 4 rfl rfl k) ?_
  refine GL.g (fun _ k => G.iconst (1 : Int32) 217 rfl (by decide) k) ?_
  refine GL.g (fun _ k => G.iadd 218 rfl k) ?_
  refine GL.sld 219 rfl h1 e1 ?_
  refine GL.g (fun _ k => G.aload_n 220 0 rfl rfl k) ?_
  refine GL.g (fun _ k => G.iload 221 4 rfl rfl k) ?_
  refine GL.g (fun _ k => G.iconst (2 : Int32) 222 rfl (by decide) k) ?_
  refine GL.g (fun _ k => G.iadd 223 rfl k) ?_
  refine GL.sld 224 rfl h2 e2 ?_
  refine GL.cV (d := 3) (mc := 0) (ms := 0) (av := [.int a1, .int a2]) (rs := [.int a2, .int a1]) (b := 81) (r, I2, J2) hM 225 rfl co_L_67 rfl rfl rfl rfl rfl ⟨⟨Nat.le_of_ble_eq_true rfl, Nat.le_of_ble_eq_true rfl⟩, ⟨by show _ ≤ 399528; omega, by show _ ≤ 7902896; omega⟩, Nat.le_of_ble_eq_true rfl⟩ (cm_X12_swap b a1 a2 I1 J1) (Or.inr rfl) ?_
  show GL L xs E cs 530 [(0, .ref scx), (1, .ref 0), (2, .ref 81), (3, .ref 128), (4, .int x)] [.int r, .int r] (zs b, I2, J2)
  refine GL.same 1721 226 rfl (by decide) ?_
  exact k
set_option maxRecDepth 100000 in
theorem lc_8 {L : Nat} {xs : Nat → Int32} {E : Ex} {cs : Nat × Nat} (b : Bool) (x a1 a2 a3 a4 : Int32) (I : HI) (J : HJ) (hcs : cs.1 + 2 ≤ 399528 ∧ cs.2 + 59392 ≤ 7902896) (h1 : vp_in (x + (1 : Int32)) L) (h2 : vp_in (x + (2 : Int32)) L) (h3 : vp_in (x + (3 : Int32)) L) (h4 : vp_in (x + (4 : Int32)) L) (e1 : xs (x + (1 : Int32)).toNatClampNeg = a1) (e2 : xs (x + (2 : Int32)).toNatClampNeg = a2) (e3 : xs (x + (3 : Int32)).toNatClampNeg = a3) (e4 : xs (x + (4 : Int32)).toNatClampNeg = a4) (r : Int32) (I1 : HI) (J1 : HJ) (I2 : HI) (J2 : HJ) (hX : F_X11_put a1 a2 I J = some (r, I1, J1)) (hM : F_X12_put a1 a2 I1 J1 = some (r, I2, J2)) (k : GL L xs E cs 1721 (lvL x) [] (zs b, I2, J2)) : GL L xs E cs 535 (lvL x) [] (zs b, I, J) := by
  refine GL.g (fun _ k => G.aload_n 229 1 rfl rfl k) ?_
  refine GL.g (fun _ k => G.aload_n 230 0 rfl rfl k) ?_
  refine GL.g (fun _ k => G.iload 231 4 rfl rfl k) ?_
  refine GL.g (fun _ k => G.iconst (1 : Int32) 232 rfl (by decide) k) ?_
  refine GL.g (fun _ k => G.iadd 233 rfl k) ?_
  refine GL.sld 234 rfl h1 e1 ?_
  refine GL.g (fun _ k => G.aload_n 235 0 rfl rfl k) ?_
  refine GL.g (fun _ k => G.iload 236 4 rfl rfl k) ?_
  refine GL.g (fun _ k => G.iconst (2 : Int32) 237 rfl (by decide) k) ?_
  refine GL.g (fun _ k => G.iadd 238 rfl k) ?_
  refine GL.sld 239 rfl h2 e2 ?_
  refine GL.cV (d := 25) (mc := 0) (ms := 0) (av := [.int a1, .int a2]) (rs := [.int a2, .int a1]) (b := 0) (r, I1, J1) hX 240 rfl co_L_68 rfl rfl rfl rfl rfl ⟨⟨Nat.le_of_ble_eq_true rfl, Nat.le_of_ble_eq_true rfl⟩, ⟨by show _ ≤ 399528; omega, by show _ ≤ 7902896; omega⟩, Nat.le_of_ble_eq_true rfl⟩ (cm_X11_put b a1 a2 I J) (Or.inr rfl) ?_
  show GL L xs E cs 551 [(0, .ref scx), (1, .ref 0), (2, .ref 81), (3, .ref 128), (4, .int x)] [.int r] (zs b, I1, J1)
  refine GL.g (fun _ k => G.aload_n 241 2 rfl rfl k) ?_
  refine GL.g (fun _ k => G.aload_n 242 0 rfl rfl k) ?_
  refine GL.g (fun _ k => G.iload 243 4 rfl rfl k) ?_
  refine GL.g (fun _ k => G.iconst (1 : Int32) 244 rfl (by decide) k) ?_
  refine GL.g (fun _ k => G.iadd 245 rfl k) ?_
  refine GL.sld 246 rfl h1 e1 ?_
  refine GL.g (fun _ k => G.aload_n 247 0 rfl rfl k) ?_
  refine GL.g (fun _ k => G.iload 248 4 rfl rfl k) ?_
  refine GL.g (fun _ k => G.iconst (2 : Int32) 249 rfl (by decide) k) ?_
  refine GL.g (fun _ k => G.iadd 250 rfl k) ?_
  refine GL.sld 251 rfl h2 e2 ?_
  refine GL.cV (d := 26) (mc := 0) (ms := 0) (av := [.int a1, .int a2]) (rs := [.int a2, .int a1]) (b := 81) (r, I2, J2) hM 252 rfl co_L_71 rfl rfl rfl rfl rfl ⟨⟨Nat.le_of_ble_eq_true rfl, Nat.le_of_ble_eq_true rfl⟩, ⟨by show _ ≤ 399528; omega, by show _ ≤ 7902896; omega⟩, Nat.le_of_ble_eq_true rfl⟩ (cm_X12_put b a1 a2 I1 J1) (Or.inr rfl) ?_
  show GL L xs E cs 567 [(0, .ref scx), (1, .ref 0), (2, .ref 81), (3, .ref 128), (4, .int x)] [.int r, .int r] (zs b, I2, J2)
  refine GL.same 1721 253 rfl (by decide) ?_
  exact k
set_option maxRecDepth 100000 in
theorem lc_9 {L : Nat} {xs : Nat → Int32} {E : Ex} {cs : Nat × Nat} (b : Bool) (x a1 a2 a3 a4 : Int32) (I : HI) (J : HJ) (hcs : cs.1 + 2 ≤ 399528 ∧ cs.2 + 59392 ≤ 7902896) (h1 : vp_in (x + (1 : Int32)) L) (h2 : vp_in (x + (2 : Int32)) L) (h3 : vp_in (x + (3 : Int32)) L) (h4 : vp_in (x + (4 : Int32)) L) (e1 : xs (x + (1 : Int32)).toNatClampNeg = a1) (e2 : xs (x + (2 : Int32)).toNatClampNeg = a2) (e3 : xs (x + (3 : Int32)).toNatClampNeg = a3) (e4 : xs (x + (4 : Int32)).toNatClampNeg = a4) (r : Int64) (I1 : HI) (J1 : HJ) (I2 : HI) (J2 : HJ) (hX : F_X11_glows I J = some (r, I1, J1)) (hM : F_X12_glows I1 J1 = some (r, I2, J2)) (k : GL L xs E cs 1721 (lvL x) [] (zs b, I2, J2)) : GL L xs E cs 572 (lvL x) [] (zs b, I, J) := by
  refine GL.g (fun _ k => G.aload_n 256 1 rfl rfl k) ?_
  refine GL.cV (d := 25) (mc := 0) (ms := 0) (av := []) (rs := []) (b := 0) (r, I1, J1) hX 257 rfl co_L_72 rfl rfl rfl rfl rfl ⟨⟨Nat.le_of_ble_eq_true rfl, Nat.le_of_ble_eq_true rfl⟩, ⟨by show _ ≤ 399528; omega, by show _ ≤ 7902896; omega⟩, Nat.le_of_ble_eq_true rfl⟩ (cm_X11_glows b I J) (Or.inr rfl) ?_
  show GL L xs E cs 576 [(0, .ref scx), (1, .ref 0), (2, .ref 81), (3, .ref 128), (4, .int x)] [.long r] (zs b, I1, J1)
  refine GL.g (fun _ k => G.aload_n 258 2 rfl rfl k) ?_
  refine GL.cV (d := 26) (mc := 0) (ms := 0) (av := []) (rs := []) (b := 81) (r, I2, J2) hM 259 rfl co_L_76 rfl rfl rfl rfl rfl ⟨⟨Nat.le_of_ble_eq_true rfl, Nat.le_of_ble_eq_true rfl⟩, ⟨by show _ ≤ 399528; omega, by show _ ≤ 7902896; omega⟩, Nat.le_of_ble_eq_true rfl⟩ (cm_X12_glows b I1 J1) (Or.inr rfl) ?_
  show GL L xs E cs 580 [(0, .ref scx), (1, .ref 0), (2, .ref 81), (3, .ref 128), (4, .int x)] [.long r, .long r] (zs b, I2, J2)
  refine GL.lsame 1721 261 260 rfl rfl (by decide) ?_
  exact k
set_option maxRecDepth 100000 in
theorem lc_10 {L : Nat} {xs : Nat → Int32} {E : Ex} {cs : Nat × Nat} (b : Bool) (x a1 a2 a3 a4 : Int32) (I : HI) (J : HJ) (hcs : cs.1 + 2 ≤ 399528 ∧ cs.2 + 59392 ≤ 7902896) (h1 : vp_in (x + (1 : Int32)) L) (h2 : vp_in (x + (2 : Int32)) L) (h3 : vp_in (x + (3 : Int32)) L) (h4 : vp_in (x + (4 : Int32)) L) (e1 : xs (x + (1 : Int32)).toNatClampNeg = a1) (e2 : xs (x + (2 : Int32)).toNatClampNeg = a2) (e3 : xs (x + (3 : Int32)).toNatClampNeg = a3) (e4 : xs (x + (4 : Int32)).toNatClampNeg = a4) (r : Int64) (I1 : HI) (J1 : HJ) (I2 : HI) (J2 : HJ) (hX : F_X11_ghosts I J = some (r, I1, J1)) (hM : F_X12_ghosts I1 J1 = some (r, I2, J2)) (k : GL L xs E cs 1721 (lvL x) [] (zs b, I2, J2)) : GL L xs E cs 586 (lvL x) [] (zs b, I, J) := by
  refine GL.g (fun _ k => G.aload_n 264 1 rfl rfl k) ?_
  refine GL.cV (d := 25) (mc := 0) (ms := 0) (av := []) (rs := []) (b := 0) (r, I1, J1) hX 265 rfl co_L_77 rfl rfl rfl rfl rfl ⟨⟨Nat.le_of_ble_eq_true rfl, Nat.le_of_ble_eq_true rfl⟩, ⟨by show _ ≤ 399528; omega, by show _ ≤ 7902896; omega⟩, Nat.le_of_ble_eq_true rfl⟩ (cm_X11_ghosts b I J) (Or.inr rfl) ?_
  show GL L xs E cs 590 [(0, .ref scx), (1, .ref 0), (2, .ref 81), (3, .ref 128), (4, .int x)] [.long r] (zs b, I1, J1)
  refine GL.g (fun _ k => G.aload_n 266 2 rfl rfl k) ?_
  refine GL.cV (d := 26) (mc := 0) (ms := 0) (av := []) (rs := []) (b := 81) (r, I2, J2) hM 267 rfl co_L_80 rfl rfl rfl rfl rfl ⟨⟨Nat.le_of_ble_eq_true rfl, Nat.le_of_ble_eq_true rfl⟩, ⟨by show _ ≤ 399528; omega, by show _ ≤ 7902896; omega⟩, Nat.le_of_ble_eq_true rfl⟩ (cm_X12_ghosts b I1 J1) (Or.inr rfl) ?_
  show GL L xs E cs 594 [(0, .ref scx), (1, .ref 0), (2, .ref 81), (3, .ref 128), (4, .int x)] [.long r, .long r] (zs b, I2, J2)
  refine GL.lsame 1721 269 268 rfl rfl (by decide) ?_
  exact k
set_option maxRecDepth 100000 in
theorem lc_11 {L : Nat} {xs : Nat → Int32} {E : Ex} {cs : Nat × Nat} (b : Bool) (x a1 a2 a3 a4 : Int32) (I : HI) (J : HJ) (hcs : cs.1 + 2 ≤ 399528 ∧ cs.2 + 59392 ≤ 7902896) (h1 : vp_in (x + (1 : Int32)) L) (h2 : vp_in (x + (2 : Int32)) L) (h3 : vp_in (x + (3 : Int32)) L) (h4 : vp_in (x + (4 : Int32)) L) (e1 : xs (x + (1 : Int32)).toNatClampNeg = a1) (e2 : xs (x + (2 : Int32)).toNatClampNeg = a2) (e3 : xs (x + (3 : Int32)).toNatClampNeg = a3) (e4 : xs (x + (4 : Int32)).toNatClampNeg = a4) (r : Int64) (I1 : HI) (J1 : HJ) (I2 : HI) (J2 : HJ) (hX : F_X11_light a1 I J = some (r, I1, J1)) (hM : F_X12_light a1 I1 J1 = some (r, I2, J2)) (k : GL L xs E cs 1721 (lvL x) [] (zs b, I2, J2)) : GL L xs E cs 600 (lvL x) [] (zs b, I, J) := by
  refine GL.g (fun _ k => G.aload_n 272 1 rfl rfl k) ?_
  refine GL.g (fun _ k => G.aload_n 273 0 rfl rfl k) ?_
  refine GL.g (fun _ k => G.iload 274 4 rfl rfl k) ?_
  refine GL.g (fun _ k => G.iconst (1 : Int32) 275 rfl (by decide) k) ?_
  refine GL.g (fun _ k => G.iadd 276 rfl k) ?_
  refine GL.sld 277 rfl h1 e1 ?_
  refine GL.cV (d := 25) (mc := 0) (ms := 0) (av := [.int a1]) (rs := [.int a1]) (b := 0) (r, I1, J1) hX 278 rfl co_L_81 rfl rfl rfl rfl rfl ⟨⟨Nat.le_of_ble_eq_true rfl, Nat.le_of_ble_eq_true rfl⟩, ⟨by show _ ≤ 399528; omega, by show _ ≤ 7902896; omega⟩, Nat.le_of_ble_eq_true rfl⟩ (cm_X11_light b a1 I J) (Or.inr rfl) ?_
  show GL L xs E cs 610 [(0, .ref scx), (1, .ref 0), (2, .ref 81), (3, .ref 128), (4, .int x)] [.long r] (zs b, I1, J1)
  refine GL.g (fun _ k => G.aload_n 279 2 rfl rfl k) ?_
  refine GL.g (fun _ k => G.aload_n 280 0 rfl rfl k) ?_
  refine GL.g (fun _ k => G.iload 281 4 rfl rfl k) ?_
  refine GL.g (fun _ k => G.iconst (1 : Int32) 282 rfl (by decide) k) ?_
  refine GL.g (fun _ k => G.iadd 283 rfl k) ?_
  refine GL.sld 284 rfl h1 e1 ?_
  refine GL.cV (d := 25) (mc := 0) (ms := 0) (av := [.int a1]) (rs := [.int a1]) (b := 81) (r, I2, J2) hM 285 rfl co_L_84 rfl rfl rfl rfl rfl ⟨⟨Nat.le_of_ble_eq_true rfl, Nat.le_of_ble_eq_true rfl⟩, ⟨by show _ ≤ 399528; omega, by show _ ≤ 7902896; omega⟩, Nat.le_of_ble_eq_true rfl⟩ (cm_X12_light b a1 I1 J1) (Or.inr rfl) ?_
  show GL L xs E cs 620 [(0, .ref scx), (1, .ref 0), (2, .ref 81), (3, .ref 128), (4, .int x)] [.long r, .long r] (zs b, I2, J2)
  refine GL.lsame 1721 287 286 rfl rfl (by decide) ?_
  exact k
set_option maxRecDepth 100000 in
theorem lc_12 {L : Nat} {xs : Nat → Int32} {E : Ex} {cs : Nat × Nat} (b : Bool) (x a1 a2 a3 a4 : Int32) (I : HI) (J : HJ) (hcs : cs.1 + 2 ≤ 399528 ∧ cs.2 + 59392 ≤ 7902896) (h1 : vp_in (x + (1 : Int32)) L) (h2 : vp_in (x + (2 : Int32)) L) (h3 : vp_in (x + (3 : Int32)) L) (h4 : vp_in (x + (4 : Int32)) L) (e1 : xs (x + (1 : Int32)).toNatClampNeg = a1) (e2 : xs (x + (2 : Int32)).toNatClampNeg = a2) (e3 : xs (x + (3 : Int32)).toNatClampNeg = a3) (e4 : xs (x + (4 : Int32)).toNatClampNeg = a4) (r : Int64) (I1 : HI) (J1 : HJ) (I2 : HI) (J2 : HJ) (hX : F_X11_why a1 I J = some (r, I1, J1)) (hM : F_X12_why a1 I1 J1 = some (r, I2, J2)) (k : GL L xs E cs 1721 (lvL x) [] (zs b, I2, J2)) : GL L xs E cs 626 (lvL x) [] (zs b, I, J) := by
  refine GL.g (fun _ k => G.aload_n 290 1 rfl rfl k) ?_
  refine GL.g (fun _ k => G.aload_n 291 0 rfl rfl k) ?_
  refine GL.g (fun _ k => G.iload 292 4 rfl rfl k) ?_
  refine GL.g (fun _ k => G.iconst (1 : Int32) 293 rfl (by decide) k) ?_
  refine GL.g (fun _ k => G.iadd 294 rfl k) ?_
  refine GL.sld 295 rfl h1 e1 ?_
  refine GL.cV (d := 25) (mc := 0) (ms := 0) (av := [.int a1]) (rs := [.int a1]) (b := 0) (r, I1, J1) hX 296 rfl co_L_85 rfl rfl rfl rfl rfl ⟨⟨Nat.le_of_ble_eq_true rfl, Nat.le_of_ble_eq_true rfl⟩, ⟨by show _ ≤ 399528; omega, by show _ ≤ 7902896; omega⟩, Nat.le_of_ble_eq_true rfl⟩ (cm_X11_why b a1 I J) (Or.inr rfl) ?_
  show GL L xs E cs 636 [(0, .ref scx), (1, .ref 0), (2, .ref 81), (3, .ref 128), (4, .int x)] [.long r] (zs b, I1, J1)
  refine GL.g (fun _ k => G.aload_n 297 2 rfl rfl k) ?_
  refine GL.g (fun _ k => G.aload_n 298 0 rfl rfl k) ?_
  refine GL.g (fun _ k => G.iload 299 4 rfl rfl k) ?_
  refine GL.g (fun _ k => G.iconst (1 : Int32) 300 rfl (by decide) k) ?_
  refine GL.g (fun _ k => G.iadd 301 rfl k) ?_
  refine GL.sld 302 rfl h1 e1 ?_
  refine GL.cV (d := 25) (mc := 0) (ms := 0) (av := [.int a1]) (rs := [.int a1]) (b := 81) (r, I2, J2) hM 303 rfl co_L_88 rfl rfl rfl rfl rfl ⟨⟨Nat.le_of_ble_eq_true rfl, Nat.le_of_ble_eq_true rfl⟩, ⟨by show _ ≤ 399528; omega, by show _ ≤ 7902896; omega⟩, Nat.le_of_ble_eq_true rfl⟩ (cm_X12_why b a1 I1 J1) (Or.inr rfl) ?_
  show GL L xs E cs 646 [(0, .ref scx), (1, .ref 0), (2, .ref 81), (3, .ref 128), (4, .int x)] [.long r, .long r] (zs b, I2, J2)
  refine GL.lsame 1721 305 304 rfl rfl (by decide) ?_
  exact k
set_option maxRecDepth 100000 in
theorem lc_13 {L : Nat} {xs : Nat → Int32} {E : Ex} {cs : Nat × Nat} (b : Bool) (x a1 a2 a3 a4 : Int32) (I : HI) (J : HJ) (hcs : cs.1 + 2 ≤ 399528 ∧ cs.2 + 59392 ≤ 7902896) (h1 : vp_in (x + (1 : Int32)) L) (h2 : vp_in (x + (2 : Int32)) L) (h3 : vp_in (x + (3 : Int32)) L) (h4 : vp_in (x + (4 : Int32)) L) (e1 : xs (x + (1 : Int32)).toNatClampNeg = a1) (e2 : xs (x + (2 : Int32)).toNatClampNeg = a2) (e3 : xs (x + (3 : Int32)).toNatClampNeg = a3) (e4 : xs (x + (4 : Int32)).toNatClampNeg = a4) (r : Int64) (I1 : HI) (J1 : HJ) (I2 : HI) (J2 : HJ) (hX : F_X11_draws a1 I J = some (r, I1, J1)) (hM : F_X12_draws a1 I1 J1 = some (r, I2, J2)) (k : GL L xs E cs 1721 (lvL x) [] (zs b, I2, J2)) : GL L xs E cs 652 (lvL x) [] (zs b, I, J) := by
  refine GL.g (fun _ k => G.aload_n 308 1 rfl rfl k) ?_
  refine GL.g (fun _ k => G.aload_n 309 0 rfl rfl k) ?_
  refine GL.g (fun _ k => G.iload 310 4 rfl rfl k) ?_
  refine GL.g (fun _ k => G.iconst (1 : Int32) 311 rfl (by decide) k) ?_
  refine GL.g (fun _ k => G.iadd 312 rfl k) ?_
  refine GL.sld 313 rfl h1 e1 ?_
  refine GL.cV (d := 25) (mc := 0) (ms := 0) (av := [.int a1]) (rs := [.int a1]) (b := 0) (r, I1, J1) hX 314 rfl co_L_89 rfl rfl rfl rfl rfl ⟨⟨Nat.le_of_ble_eq_true rfl, Nat.le_of_ble_eq_true rfl⟩, ⟨by show _ ≤ 399528; omega, by show _ ≤ 7902896; omega⟩, Nat.le_of_ble_eq_true rfl⟩ (cm_X11_draws b a1 I J) (Or.inr rfl) ?_
  show GL L xs E cs 662 [(0, .ref scx), (1, .ref 0), (2, .ref 81), (3, .ref 128), (4, .int x)] [.long r] (zs b, I1, J1)
  refine GL.g (fun _ k => G.aload_n 315 2 rfl rfl k) ?_
  refine GL.g (fun _ k => G.aload_n 316 0 rfl rfl k) ?_
  refine GL.g (fun _ k => G.iload 317 4 rfl rfl k) ?_
  refine GL.g (fun _ k => G.iconst (1 : Int32) 318 rfl (by decide) k) ?_
  refine GL.g (fun _ k => G.iadd 319 rfl k) ?_
  refine GL.sld 320 rfl h1 e1 ?_
  refine GL.cV (d := 25) (mc := 0) (ms := 0) (av := [.int a1]) (rs := [.int a1]) (b := 81) (r, I2, J2) hM 321 rfl co_L_92 rfl rfl rfl rfl rfl ⟨⟨Nat.le_of_ble_eq_true rfl, Nat.le_of_ble_eq_true rfl⟩, ⟨by show _ ≤ 399528; omega, by show _ ≤ 7902896; omega⟩, Nat.le_of_ble_eq_true rfl⟩ (cm_X12_draws b a1 I1 J1) (Or.inr rfl) ?_
  show GL L xs E cs 672 [(0, .ref scx), (1, .ref 0), (2, .ref 81), (3, .ref 128), (4, .int x)] [.long r, .long r] (zs b, I2, J2)
  refine GL.lsame 1721 323 322 rfl rfl (by decide) ?_
  exact k
set_option maxRecDepth 100000 in
theorem lc_14 {L : Nat} {xs : Nat → Int32} {E : Ex} {cs : Nat × Nat} (b : Bool) (x a1 a2 a3 a4 : Int32) (I : HI) (J : HJ) (hcs : cs.1 + 2 ≤ 399528 ∧ cs.2 + 59392 ≤ 7902896) (h1 : vp_in (x + (1 : Int32)) L) (h2 : vp_in (x + (2 : Int32)) L) (h3 : vp_in (x + (3 : Int32)) L) (h4 : vp_in (x + (4 : Int32)) L) (e1 : xs (x + (1 : Int32)).toNatClampNeg = a1) (e2 : xs (x + (2 : Int32)).toNatClampNeg = a2) (e3 : xs (x + (3 : Int32)).toNatClampNeg = a3) (e4 : xs (x + (4 : Int32)).toNatClampNeg = a4) (r : Int32) (I1 : HI) (J1 : HJ) (I2 : HI) (J2 : HJ) (hX : F_X11_brightest I J = some (r, I1, J1)) (hM : F_X12_brightest I1 J1 = some (r, I2, J2)) (k : GL L xs E cs 1721 (lvL x) [] (zs b, I2, J2)) : GL L xs E cs 678 (lvL x) [] (zs b, I, J) := by
  refine GL.g (fun _ k => G.aload_n 326 1 rfl rfl k) ?_
  refine GL.cV (d := 25) (mc := 0) (ms := 0) (av := []) (rs := []) (b := 0) (r, I1, J1) hX 327 rfl co_L_93 rfl rfl rfl rfl rfl ⟨⟨Nat.le_of_ble_eq_true rfl, Nat.le_of_ble_eq_true rfl⟩, ⟨by show _ ≤ 399528; omega, by show _ ≤ 7902896; omega⟩, Nat.le_of_ble_eq_true rfl⟩ (cm_X11_brightest b I J) (Or.inr rfl) ?_
  show GL L xs E cs 682 [(0, .ref scx), (1, .ref 0), (2, .ref 81), (3, .ref 128), (4, .int x)] [.int r] (zs b, I1, J1)
  refine GL.g (fun _ k => G.aload_n 328 2 rfl rfl k) ?_
  refine GL.cV (d := 25) (mc := 0) (ms := 0) (av := []) (rs := []) (b := 81) (r, I2, J2) hM 329 rfl co_L_96 rfl rfl rfl rfl rfl ⟨⟨Nat.le_of_ble_eq_true rfl, Nat.le_of_ble_eq_true rfl⟩, ⟨by show _ ≤ 399528; omega, by show _ ≤ 7902896; omega⟩, Nat.le_of_ble_eq_true rfl⟩ (cm_X12_brightest b I1 J1) (Or.inr rfl) ?_
  show GL L xs E cs 686 [(0, .ref scx), (1, .ref 0), (2, .ref 81), (3, .ref 128), (4, .int x)] [.int r, .int r] (zs b, I2, J2)
  refine GL.same 1721 330 rfl (by decide) ?_
  exact k
set_option maxRecDepth 100000 in
theorem lc_15 {L : Nat} {xs : Nat → Int32} {E : Ex} {cs : Nat × Nat} (b : Bool) (x a1 a2 a3 a4 : Int32) (I : HI) (J : HJ) (hcs : cs.1 + 2 ≤ 399528 ∧ cs.2 + 59392 ≤ 7902896) (h1 : vp_in (x + (1 : Int32)) L) (h2 : vp_in (x + (2 : Int32)) L) (h3 : vp_in (x + (3 : Int32)) L) (h4 : vp_in (x + (4 : Int32)) L) (e1 : xs (x + (1 : Int32)).toNatClampNeg = a1) (e2 : xs (x + (2 : Int32)).toNatClampNeg = a2) (e3 : xs (x + (3 : Int32)).toNatClampNeg = a3) (e4 : xs (x + (4 : Int32)).toNatClampNeg = a4) (r : Int32) (I1 : HI) (J1 : HJ) (I2 : HI) (J2 : HJ) (hX : F_X11_shows (lgA a1 a2) I J = some (r, I1, J1)) (hM : F_X12_shows (lgA a1 a2) I1 J1 = some (r, I2, J2)) (k : GL L xs E cs 1721 (lvL x) [] (zs b, I2, J2)) : GL L xs E cs 691 (lvL x) [] (zs b, I, J) := by
  refine GL.g (fun _ k => G.aload_n 333 1 rfl rfl k) ?_
  refine GL.g (fun _ k => G.aload_n 334 0 rfl rfl k) ?_
  refine GL.g (fun _ k => G.iload 335 4 rfl rfl k) ?_
  refine GL.g (fun _ k => G.iconst (1 : Int32) 336 rfl (by decide) k) ?_
  refine GL.g (fun _ k => G.iadd 337 rfl k) ?_
  refine GL.sld 338 rfl h1 e1 ?_
  refine GL.g (fun _ k => G.i2l 339 rfl k) ?_
  refine GL.g (fun _ k => G.bipush (32 : Int32) 340 rfl (by decide) k) ?_
  refine GL.g (fun _ k => G.lshl 341 rfl k) ?_
  refine GL.g (fun _ k => G.aload_n 342 0 rfl rfl k) ?_
  refine GL.g (fun _ k => G.iload 343 4 rfl rfl k) ?_
  refine GL.g (fun _ k => G.iconst (2 : Int32) 344 rfl (by decide) k) ?_
  refine GL.g (fun _ k => G.iadd 345 rfl k) ?_
  refine GL.sld 346 rfl h2 e2 ?_
  refine GL.g (fun _ k => G.i2l 347 rfl k) ?_
  refine GL.g (fun _ k => G.ldc2 (4294967295 : Int64) 348 rfl ko_L_97 k) ?_
  refine GL.g (fun _ k => G.land 349 rfl k) ?_
  refine GL.g (fun _ k => G.lor 350 rfl k) ?_
  refine GL.cV (d := 26) (mc := 0) (ms := 0) (av := [.long ((olshl (Int32.toInt64 a1) (32 : Int32)) ||| ((Int32.toInt64 a2) &&& (4294967295 : Int64)))]) (rs := [.long ((olshl (Int32.toInt64 a1) (32 : Int32)) ||| ((Int32.toInt64 a2) &&& (4294967295 : Int64)))]) (b := 0) (r, I1, J1) hX 351 rfl co_L_99 rfl rfl rfl rfl rfl ⟨⟨Nat.le_of_ble_eq_true rfl, Nat.le_of_ble_eq_true rfl⟩, ⟨by show _ ≤ 399528; omega, by show _ ≤ 7902896; omega⟩, Nat.le_of_ble_eq_true rfl⟩ (cm_X11_shows b (lgA a1 a2) I J) (Or.inr rfl) ?_
  show GL L xs E cs 717 [(0, .ref scx), (1, .ref 0), (2, .ref 81), (3, .ref 128), (4, .int x)] [.int r] (zs b, I1, J1)
  refine GL.g (fun _ k => G.aload_n 352 2 rfl rfl k) ?_
  refine GL.g (fun _ k => G.aload_n 353 0 rfl rfl k) ?_
  refine GL.g (fun _ k => G.iload 354 4 rfl rfl k) ?_
  refine GL.g (fun _ k => G.iconst (1 : Int32) 355 rfl (by decide) k) ?_
  refine GL.g (fun _ k => G.iadd 356 rfl k) ?_
  refine GL.sld 357 rfl h1 e1 ?_
  refine GL.g (fun _ k => G.i2l 358 rfl k) ?_
  refine GL.g (fun _ k => G.bipush (32 : Int32) 359 rfl (by decide) k) ?_
  refine GL.g (fun _ k => G.lshl 360 rfl k) ?_
  refine GL.g (fun _ k => G.aload_n 361 0 rfl rfl k) ?_
  refine GL.g (fun _ k => G.iload 362 4 rfl rfl k) ?_
  refine GL.g (fun _ k => G.iconst (2 : Int32) 363 rfl (by decide) k) ?_
  refine GL.g (fun _ k => G.iadd 364 rfl k) ?_
  refine GL.sld 365 rfl h2 e2 ?_
  refine GL.g (fun _ k => G.i2l 366 rfl k) ?_
  refine GL.g (fun _ k => G.ldc2 (4294967295 : Int64) 367 rfl ko_L_97 k) ?_
  refine GL.g (fun _ k => G.land 368 rfl k) ?_
  refine GL.g (fun _ k => G.lor 369 rfl k) ?_
  refine GL.cV (d := 27) (mc := 0) (ms := 0) (av := [.long ((olshl (Int32.toInt64 a1) (32 : Int32)) ||| ((Int32.toInt64 a2) &&& (4294967295 : Int64)))]) (rs := [.long ((olshl (Int32.toInt64 a1) (32 : Int32)) ||| ((Int32.toInt64 a2) &&& (4294967295 : Int64)))]) (b := 81) (r, I2, J2) hM 370 rfl co_L_103 rfl rfl rfl rfl rfl ⟨⟨Nat.le_of_ble_eq_true rfl, Nat.le_of_ble_eq_true rfl⟩, ⟨by show _ ≤ 399528; omega, by show _ ≤ 7902896; omega⟩, Nat.le_of_ble_eq_true rfl⟩ (cm_X12_shows b (lgA a1 a2) I1 J1) (Or.inr rfl) ?_
  show GL L xs E cs 743 [(0, .ref scx), (1, .ref 0), (2, .ref 81), (3, .ref 128), (4, .int x)] [.int r, .int r] (zs b, I2, J2)
  refine GL.same 1721 371 rfl (by decide) ?_
  exact k
set_option maxRecDepth 100000 in
theorem lc_16 {L : Nat} {xs : Nat → Int32} {E : Ex} {cs : Nat × Nat} (b : Bool) (x a1 a2 a3 a4 : Int32) (I : HI) (J : HJ) (hcs : cs.1 + 2 ≤ 399528 ∧ cs.2 + 59392 ≤ 7902896) (h1 : vp_in (x + (1 : Int32)) L) (h2 : vp_in (x + (2 : Int32)) L) (h3 : vp_in (x + (3 : Int32)) L) (h4 : vp_in (x + (4 : Int32)) L) (e1 : xs (x + (1 : Int32)).toNatClampNeg = a1) (e2 : xs (x + (2 : Int32)).toNatClampNeg = a2) (e3 : xs (x + (3 : Int32)).toNatClampNeg = a3) (e4 : xs (x + (4 : Int32)).toNatClampNeg = a4) (r : Int32) (I1 : HI) (J1 : HJ) (I2 : HI) (J2 : HJ) (hX : F_X11_bars (lgA a1 a2) I J = some (r, I1, J1)) (hM : F_X12_bars (lgA a1 a2) I1 J1 = some (r, I2, J2)) (k : GL L xs E cs 1721 (lvL x) [] (zs b, I2, J2)) : GL L xs E cs 748 (lvL x) [] (zs b, I, J) := by
  refine GL.g (fun _ k => G.aload_n 374 1 rfl rfl k) ?_
  refine GL.g (fun _ k => G.aload_n 375 0 rfl rfl k) ?_
  refine GL.g (fun _ k => G.iload 376 4 rfl rfl k) ?_
  refine GL.g (fun _ k => G.iconst (1 : Int32) 377 rfl (by decide) k) ?_
  refine GL.g (fun _ k => G.iadd 378 rfl k) ?_
  refine GL.sld 379 rfl h1 e1 ?_
  refine GL.g (fun _ k => G.i2l 380 rfl k) ?_
  refine GL.g (fun _ k => G.bipush (32 : Int32) 381 rfl (by decide) k) ?_
  refine GL.g (fun _ k => G.lshl 382 rfl k) ?_
  refine GL.g (fun _ k => G.aload_n 383 0 rfl rfl k) ?_
  refine GL.g (fun _ k => G.iload 384 4 rfl rfl k) ?_
  refine GL.g (fun _ k => G.iconst (2 : Int32) 385 rfl (by decide) k) ?_
  refine GL.g (fun _ k => G.iadd 386 rfl k) ?_
  refine GL.sld 387 rfl h2 e2 ?_
  refine GL.g (fun _ k => G.i2l 388 rfl k) ?_
  refine GL.g (fun _ k => G.ldc2 (4294967295 : Int64) 389 rfl ko_L_97 k) ?_
  refine GL.g (fun _ k => G.land 390 rfl k) ?_
  refine GL.g (fun _ k => G.lor 391 rfl k) ?_
  refine GL.cV (d := 26) (mc := 0) (ms := 0) (av := [.long ((olshl (Int32.toInt64 a1) (32 : Int32)) ||| ((Int32.toInt64 a2) &&& (4294967295 : Int64)))]) (rs := [.long ((olshl (Int32.toInt64 a1) (32 : Int32)) ||| ((Int32.toInt64 a2) &&& (4294967295 : Int64)))]) (b := 0) (r, I1, J1) hX 392 rfl co_L_104 rfl rfl rfl rfl rfl ⟨⟨Nat.le_of_ble_eq_true rfl, Nat.le_of_ble_eq_true rfl⟩, ⟨by show _ ≤ 399528; omega, by show _ ≤ 7902896; omega⟩, Nat.le_of_ble_eq_true rfl⟩ (cm_X11_bars b (lgA a1 a2) I J) (Or.inr rfl) ?_
  show GL L xs E cs 774 [(0, .ref scx), (1, .ref 0), (2, .ref 81), (3, .ref 128), (4, .int x)] [.int r] (zs b, I1, J1)
  refine GL.g (fun _ k => G.aload_n 393 2 rfl rfl k) ?_
  refine GL.g (fun _ k => G.aload_n 394 0 rfl rfl k) ?_
  refine GL.g (fun _ k => G.iload 395 4 rfl rfl k) ?_
  refine GL.g (fun _ k => G.iconst (1 : Int32) 396 rfl (by decide) k) ?_
  refine GL.g (fun _ k => G.iadd 397 rfl k) ?_
  refine GL.sld 398 rfl h1 e1 ?_
  refine GL.g (fun _ k => G.i2l 399 rfl k) ?_
  refine GL.g (fun _ k => G.bipush (32 : Int32) 400 rfl (by decide) k) ?_
  refine GL.g (fun _ k => G.lshl 401 rfl k) ?_
  refine GL.g (fun _ k => G.aload_n 402 0 rfl rfl k) ?_
  refine GL.g (fun _ k => G.iload 403 4 rfl rfl k) ?_
  refine GL.g (fun _ k => G.iconst (2 : Int32) 404 rfl (by decide) k) ?_
  refine GL.g (fun _ k => G.iadd 405 rfl k) ?_
  refine GL.sld 406 rfl h2 e2 ?_
  refine GL.g (fun _ k => G.i2l 407 rfl k) ?_
  refine GL.g (fun _ k => G.ldc2 (4294967295 : Int64) 408 rfl ko_L_97 k) ?_
  refine GL.g (fun _ k => G.land 409 rfl k) ?_
  refine GL.g (fun _ k => G.lor 410 rfl k) ?_
  refine GL.cV (d := 27) (mc := 0) (ms := 0) (av := [.long ((olshl (Int32.toInt64 a1) (32 : Int32)) ||| ((Int32.toInt64 a2) &&& (4294967295 : Int64)))]) (rs := [.long ((olshl (Int32.toInt64 a1) (32 : Int32)) ||| ((Int32.toInt64 a2) &&& (4294967295 : Int64)))]) (b := 81) (r, I2, J2) hM 411 rfl co_L_107 rfl rfl rfl rfl rfl ⟨⟨Nat.le_of_ble_eq_true rfl, Nat.le_of_ble_eq_true rfl⟩, ⟨by show _ ≤ 399528; omega, by show _ ≤ 7902896; omega⟩, Nat.le_of_ble_eq_true rfl⟩ (cm_X12_bars b (lgA a1 a2) I1 J1) (Or.inr rfl) ?_
  show GL L xs E cs 800 [(0, .ref scx), (1, .ref 0), (2, .ref 81), (3, .ref 128), (4, .int x)] [.int r, .int r] (zs b, I2, J2)
  refine GL.same 1721 412 rfl (by decide) ?_
  exact k
set_option maxRecDepth 100000 in
theorem lc_17 {L : Nat} {xs : Nat → Int32} {E : Ex} {cs : Nat × Nat} (b : Bool) (x a1 a2 a3 a4 : Int32) (I : HI) (J : HJ) (hcs : cs.1 + 2 ≤ 399528 ∧ cs.2 + 59392 ≤ 7902896) (h1 : vp_in (x + (1 : Int32)) L) (h2 : vp_in (x + (2 : Int32)) L) (h3 : vp_in (x + (3 : Int32)) L) (h4 : vp_in (x + (4 : Int32)) L) (e1 : xs (x + (1 : Int32)).toNatClampNeg = a1) (e2 : xs (x + (2 : Int32)).toNatClampNeg = a2) (e3 : xs (x + (3 : Int32)).toNatClampNeg = a3) (e4 : xs (x + (4 : Int32)).toNatClampNeg = a4) (r : Int32) (I1 : HI) (J1 : HJ) (I2 : HI) (J2 : HJ) (hX : F_X11_most I J = some (r, I1, J1)) (hM : F_X12_most I1 J1 = some (r, I2, J2)) (k : GL L xs E cs 1721 (lvL x) [] (zs b, I2, J2)) : GL L xs E cs 805 (lvL x) [] (zs b, I, J) := by
  refine GL.g (fun _ k => G.aload_n 415 1 rfl rfl k) ?_
  refine GL.cV (d := 26) (mc := 0) (ms := 0) (av := []) (rs := []) (b := 0) (r, I1, J1) hX 416 rfl co_L_108 rfl rfl rfl rfl rfl ⟨⟨Nat.le_of_ble_eq_true rfl, Nat.le_of_ble_eq_true rfl⟩, ⟨by show _ ≤ 399528; omega, by show _ ≤ 7902896; omega⟩, Nat.le_of_ble_eq_true rfl⟩ (cm_X11_most b I J) (Or.inr rfl) ?_
  show GL L xs E cs 809 [(0, .ref scx), (1, .ref 0), (2, .ref 81), (3, .ref 128), (4, .int x)] [.int r] (zs b, I1, J1)
  refine GL.g (fun _ k => G.aload_n 417 2 rfl rfl k) ?_
  refine GL.cV (d := 27) (mc := 0) (ms := 0) (av := []) (rs := []) (b := 81) (r, I2, J2) hM 418 rfl co_L_111 rfl rfl rfl rfl rfl ⟨⟨Nat.le_of_ble_eq_true rfl, Nat.le_of_ble_eq_true rfl⟩, ⟨by show _ ≤ 399528; omega, by show _ ≤ 7902896; omega⟩, Nat.le_of_ble_eq_true rfl⟩ (cm_X12_most b I1 J1) (Or.inr rfl) ?_
  show GL L xs E cs 813 [(0, .ref scx), (1, .ref 0), (2, .ref 81), (3, .ref 128), (4, .int x)] [.int r, .int r] (zs b, I2, J2)
  refine GL.same 1721 419 rfl (by decide) ?_
  exact k
set_option maxRecDepth 100000 in
theorem lc_18 {L : Nat} {xs : Nat → Int32} {E : Ex} {cs : Nat × Nat} (b : Bool) (x a1 a2 a3 a4 : Int32) (I : HI) (J : HJ) (hcs : cs.1 + 2 ≤ 399528 ∧ cs.2 + 59392 ≤ 7902896) (h1 : vp_in (x + (1 : Int32)) L) (h2 : vp_in (x + (2 : Int32)) L) (h3 : vp_in (x + (3 : Int32)) L) (h4 : vp_in (x + (4 : Int32)) L) (e1 : xs (x + (1 : Int32)).toNatClampNeg = a1) (e2 : xs (x + (2 : Int32)).toNatClampNeg = a2) (e3 : xs (x + (3 : Int32)).toNatClampNeg = a3) (e4 : xs (x + (4 : Int32)).toNatClampNeg = a4) (r : Int32) (I1 : HI) (J1 : HJ) (I2 : HI) (J2 : HJ) (hX : F_X11_sets I J = some (r, I1, J1)) (hM : F_X12_sets I1 J1 = some (r, I2, J2)) (k : GL L xs E cs 1721 (lvL x) [] (zs b, I2, J2)) : GL L xs E cs 818 (lvL x) [] (zs b, I, J) := by
  refine GL.g (fun _ k => G.aload_n 422 1 rfl rfl k) ?_
  refine GL.cV (d := 26) (mc := 0) (ms := 0) (av := []) (rs := []) (b := 0) (r, I1, J1) hX 423 rfl co_L_112 rfl rfl rfl rfl rfl ⟨⟨Nat.le_of_ble_eq_true rfl, Nat.le_of_ble_eq_true rfl⟩, ⟨by show _ ≤ 399528; omega, by show _ ≤ 7902896; omega⟩, Nat.le_of_ble_eq_true rfl⟩ (cm_X11_sets b I J) (Or.inr rfl) ?_
  show GL L xs E cs 822 [(0, .ref scx), (1, .ref 0), (2, .ref 81), (3, .ref 128), (4, .int x)] [.int r] (zs b, I1, J1)
  refine GL.g (fun _ k => G.aload_n 424 2 rfl rfl k) ?_
  refine GL.cV (d := 27) (mc := 0) (ms := 0) (av := []) (rs := []) (b := 81) (r, I2, J2) hM 425 rfl co_L_115 rfl rfl rfl rfl rfl ⟨⟨Nat.le_of_ble_eq_true rfl, Nat.le_of_ble_eq_true rfl⟩, ⟨by show _ ≤ 399528; omega, by show _ ≤ 7902896; omega⟩, Nat.le_of_ble_eq_true rfl⟩ (cm_X12_sets b I1 J1) (Or.inr rfl) ?_
  show GL L xs E cs 826 [(0, .ref scx), (1, .ref 0), (2, .ref 81), (3, .ref 128), (4, .int x)] [.int r, .int r] (zs b, I2, J2)
  refine GL.same 1721 426 rfl (by decide) ?_
  exact k
set_option maxRecDepth 100000 in
theorem lc_19 {L : Nat} {xs : Nat → Int32} {E : Ex} {cs : Nat × Nat} (b : Bool) (x a1 a2 a3 a4 : Int32) (I : HI) (J : HJ) (hcs : cs.1 + 2 ≤ 399528 ∧ cs.2 + 59392 ≤ 7902896) (h1 : vp_in (x + (1 : Int32)) L) (h2 : vp_in (x + (2 : Int32)) L) (h3 : vp_in (x + (3 : Int32)) L) (h4 : vp_in (x + (4 : Int32)) L) (e1 : xs (x + (1 : Int32)).toNatClampNeg = a1) (e2 : xs (x + (2 : Int32)).toNatClampNeg = a2) (e3 : xs (x + (3 : Int32)).toNatClampNeg = a3) (e4 : xs (x + (4 : Int32)).toNatClampNeg = a4) (r : Int32) (I1 : HI) (J1 : HJ) (I2 : HI) (J2 : HJ) (hX : F_X11_fits a1 a2 I J = some (r, I1, J1)) (hM : F_X12_fits a1 a2 I1 J1 = some (r, I2, J2)) (k : GL L xs E cs 1721 (lvL x) [] (zs b, I2, J2)) : GL L xs E cs 831 (lvL x) [] (zs b, I, J) := by
  refine GL.g (fun _ k => G.aload_n 429 1 rfl rfl k) ?_
  refine GL.g (fun _ k => G.aload_n 430 0 rfl rfl k) ?_
  refine GL.g (fun _ k => G.iload 431 4 rfl rfl k) ?_
  refine GL.g (fun _ k => G.iconst (1 : Int32) 432 rfl (by decide) k) ?_
  refine GL.g (fun _ k => G.iadd 433 rfl k) ?_
  refine GL.sld 434 rfl h1 e1 ?_
  refine GL.g (fun _ k => G.aload_n 435 0 rfl rfl k) ?_
  refine GL.g (fun _ k => G.iload 436 4 rfl rfl k) ?_
  refine GL.g (fun _ k => G.iconst (2 : Int32) 437 rfl (by decide) k) ?_
  refine GL.g (fun _ k => G.iadd 438 rfl k) ?_
  refine GL.sld 439 rfl h2 e2 ?_
  refine GL.cV (d := 26) (mc := 0) (ms := 0) (av := [.int a1, .int a2]) (rs := [.int a2, .int a1]) (b := 0) (r, I1, J1) hX 440 rfl co_L_116 rfl rfl rfl rfl rfl ⟨⟨Nat.le_of_ble_eq_true rfl, Nat.le_of_ble_eq_true rfl⟩, ⟨by show _ ≤ 399528; omega, by show _ ≤ 7902896; omega⟩, Nat.le_of_ble_eq_true rfl⟩ (cm_X11_fits b a1 a2 I J) (Or.inr rfl) ?_
  show GL L xs E cs 847 [(0, .ref scx), (1, .ref 0), (2, .ref 81), (3, .ref 128), (4, .int x)] [.int r] (zs b, I1, J1)
  refine GL.g (fun _ k => G.aload_n 441 2 rfl rfl k) ?_
  refine GL.g (fun _ k => G.aload_n 442 0 rfl rfl k) ?_
  refine GL.g (fun _ k => G.iload 443 4 rfl rfl k) ?_
  refine GL.g (fun _ k => G.iconst (1 : Int32) 444 rfl (by decide) k) ?_
  refine GL.g (fun _ k => G.iadd 445 rfl k) ?_
  refine GL.sld 446 rfl h1 e1 ?_
  refine GL.g (fun _ k => G.aload_n 447 0 rfl rfl k) ?_
  refine GL.g (fun _ k => G.iload 448 4 rfl rfl k) ?_
  refine GL.g (fun _ k => G.iconst (2 : Int32) 449 rfl (by decide) k) ?_
  refine GL.g (fun _ k => G.iadd 450 rfl k) ?_
  refine GL.sld 451 rfl h2 e2 ?_
  refine GL.cV (d := 27) (mc := 0) (ms := 0) (av := [.int a1, .int a2]) (rs := [.int a2, .int a1]) (b := 81) (r, I2, J2) hM 452 rfl co_L_119 rfl rfl rfl rfl rfl ⟨⟨Nat.le_of_ble_eq_true rfl, Nat.le_of_ble_eq_true rfl⟩, ⟨by show _ ≤ 399528; omega, by show _ ≤ 7902896; omega⟩, Nat.le_of_ble_eq_true rfl⟩ (cm_X12_fits b a1 a2 I1 J1) (Or.inr rfl) ?_
  show GL L xs E cs 863 [(0, .ref scx), (1, .ref 0), (2, .ref 81), (3, .ref 128), (4, .int x)] [.int r, .int r] (zs b, I2, J2)
  refine GL.same 1721 453 rfl (by decide) ?_
  exact k
set_option maxRecDepth 100000 in
theorem lc_20 {L : Nat} {xs : Nat → Int32} {E : Ex} {cs : Nat × Nat} (b : Bool) (x a1 a2 a3 a4 : Int32) (I : HI) (J : HJ) (hcs : cs.1 + 2 ≤ 399528 ∧ cs.2 + 59392 ≤ 7902896) (h1 : vp_in (x + (1 : Int32)) L) (h2 : vp_in (x + (2 : Int32)) L) (h3 : vp_in (x + (3 : Int32)) L) (h4 : vp_in (x + (4 : Int32)) L) (e1 : xs (x + (1 : Int32)).toNatClampNeg = a1) (e2 : xs (x + (2 : Int32)).toNatClampNeg = a2) (e3 : xs (x + (3 : Int32)).toNatClampNeg = a3) (e4 : xs (x + (4 : Int32)).toNatClampNeg = a4) (r : Int64) (I1 : HI) (J1 : HJ) (I2 : HI) (J2 : HJ) (hX : F_X11_alone I J = some (r, I1, J1)) (hM : F_X12_alone I1 J1 = some (r, I2, J2)) (k : GL L xs E cs 1721 (lvL x) [] (zs b, I2, J2)) : GL L xs E cs 868 (lvL x) [] (zs b, I, J) := by
  refine GL.g (fun _ k => G.aload_n 456 1 rfl rfl k) ?_
  refine GL.cV (d := 26) (mc := 0) (ms := 0) (av := []) (rs := []) (b := 0) (r, I1, J1) hX 457 rfl co_L_120 rfl rfl rfl rfl rfl ⟨⟨Nat.le_of_ble_eq_true rfl, Nat.le_of_ble_eq_true rfl⟩, ⟨by show _ ≤ 399528; omega, by show _ ≤ 7902896; omega⟩, Nat.le_of_ble_eq_true rfl⟩ (cm_X11_alone b I J) (Or.inr rfl) ?_
  show GL L xs E cs 872 [(0, .ref scx), (1, .ref 0), (2, .ref 81), (3, .ref 128), (4, .int x)] [.long r] (zs b, I1, J1)
  refine GL.g (fun _ k => G.aload_n 458 2 rfl rfl k) ?_
  refine GL.cV (d := 27) (mc := 0) (ms := 0) (av := []) (rs := []) (b := 81) (r, I2, J2) hM 459 rfl co_L_123 rfl rfl rfl rfl rfl ⟨⟨Nat.le_of_ble_eq_true rfl, Nat.le_of_ble_eq_true rfl⟩, ⟨by show _ ≤ 399528; omega, by show _ ≤ 7902896; omega⟩, Nat.le_of_ble_eq_true rfl⟩ (cm_X12_alone b I1 J1) (Or.inr rfl) ?_
  show GL L xs E cs 876 [(0, .ref scx), (1, .ref 0), (2, .ref 81), (3, .ref 128), (4, .int x)] [.long r, .long r] (zs b, I2, J2)
  refine GL.lsame 1721 461 460 rfl rfl (by decide) ?_
  exact k
set_option maxRecDepth 100000 in
theorem lc_21 {L : Nat} {xs : Nat → Int32} {E : Ex} {cs : Nat × Nat} (b : Bool) (x a1 a2 a3 a4 : Int32) (I : HI) (J : HJ) (hcs : cs.1 + 2 ≤ 399528 ∧ cs.2 + 59392 ≤ 7902896) (h1 : vp_in (x + (1 : Int32)) L) (h2 : vp_in (x + (2 : Int32)) L) (h3 : vp_in (x + (3 : Int32)) L) (h4 : vp_in (x + (4 : Int32)) L) (e1 : xs (x + (1 : Int32)).toNatClampNeg = a1) (e2 : xs (x + (2 : Int32)).toNatClampNeg = a2) (e3 : xs (x + (3 : Int32)).toNatClampNeg = a3) (e4 : xs (x + (4 : Int32)).toNatClampNeg = a4) (r : Int32) (I1 : HI) (J1 : HJ) (I2 : HI) (J2 : HJ) (hX : F_X11_twins I J = some (r, I1, J1)) (hM : F_X12_twins I1 J1 = some (r, I2, J2)) (k : GL L xs E cs 1721 (lvL x) [] (zs b, I2, J2)) : GL L xs E cs 882 (lvL x) [] (zs b, I, J) := by
  refine GL.g (fun _ k => G.aload_n 464 1 rfl rfl k) ?_
  refine GL.cV (d := 26) (mc := 0) (ms := 0) (av := []) (rs := []) (b := 0) (r, I1, J1) hX 465 rfl co_L_124 rfl rfl rfl rfl rfl ⟨⟨Nat.le_of_ble_eq_true rfl, Nat.le_of_ble_eq_true rfl⟩, ⟨by show _ ≤ 399528; omega, by show _ ≤ 7902896; omega⟩, Nat.le_of_ble_eq_true rfl⟩ (cm_X11_twins b I J) (Or.inr rfl) ?_
  show GL L xs E cs 886 [(0, .ref scx), (1, .ref 0), (2, .ref 81), (3, .ref 128), (4, .int x)] [.int r] (zs b, I1, J1)
  refine GL.g (fun _ k => G.aload_n 466 2 rfl rfl k) ?_
  refine GL.cV (d := 27) (mc := 0) (ms := 0) (av := []) (rs := []) (b := 81) (r, I2, J2) hM 467 rfl co_L_127 rfl rfl rfl rfl rfl ⟨⟨Nat.le_of_ble_eq_true rfl, Nat.le_of_ble_eq_true rfl⟩, ⟨by show _ ≤ 399528; omega, by show _ ≤ 7902896; omega⟩, Nat.le_of_ble_eq_true rfl⟩ (cm_X12_twins b I1 J1) (Or.inr rfl) ?_
  show GL L xs E cs 890 [(0, .ref scx), (1, .ref 0), (2, .ref 81), (3, .ref 128), (4, .int x)] [.int r, .int r] (zs b, I2, J2)
  refine GL.same 1721 468 rfl (by decide) ?_
  exact k
set_option maxRecDepth 100000 in
theorem lc_22 {L : Nat} {xs : Nat → Int32} {E : Ex} {cs : Nat × Nat} (b : Bool) (x a1 a2 a3 a4 : Int32) (I : HI) (J : HJ) (hcs : cs.1 + 2 ≤ 399528 ∧ cs.2 + 59392 ≤ 7902896) (h1 : vp_in (x + (1 : Int32)) L) (h2 : vp_in (x + (2 : Int32)) L) (h3 : vp_in (x + (3 : Int32)) L) (h4 : vp_in (x + (4 : Int32)) L) (e1 : xs (x + (1 : Int32)).toNatClampNeg = a1) (e2 : xs (x + (2 : Int32)).toNatClampNeg = a2) (e3 : xs (x + (3 : Int32)).toNatClampNeg = a3) (e4 : xs (x + (4 : Int32)).toNatClampNeg = a4) (r : Int32) (I1 : HI) (J1 : HJ) (I2 : HI) (J2 : HJ) (hX : F_X11_range a1 a2 I J = some (r, I1, J1)) (hM : F_X12_range a1 a2 I1 J1 = some (r, I2, J2)) (k : GL L xs E cs 1721 (lvL x) [] (zs b, I2, J2)) : GL L xs E cs 895 (lvL x) [] (zs b, I, J) := by
  refine GL.g (fun _ k => G.aload_n 471 1 rfl rfl k) ?_
  refine GL.g (fun _ k => G.aload_n 472 0 rfl rfl k) ?_
  refine GL.g (fun _ k => G.iload 473 4 rfl rfl k) ?_
  refine GL.g (fun _ k => G.iconst (1 : Int32) 474 rfl (by decide) k) ?_
  refine GL.g (fun _ k => G.iadd 475 rfl k) ?_
  refine GL.sld 476 rfl h1 e1 ?_
  refine GL.g (fun _ k => G.aload_n 477 0 rfl rfl k) ?_
  refine GL.g (fun _ k => G.iload 478 4 rfl rfl k) ?_
  refine GL.g (fun _ k => G.iconst (2 : Int32) 479 rfl (by decide) k) ?_
  refine GL.g (fun _ k => G.iadd 480 rfl k) ?_
  refine GL.sld 481 rfl h2 e2 ?_
  refine GL.cV (d := 25) (mc := 0) (ms := 0) (av := [.int a1, .int a2]) (rs := [.int a2, .int a1]) (b := 0) (r, I1, J1) hX 482 rfl co_L_128 rfl rfl rfl rfl rfl ⟨⟨Nat.le_of_ble_eq_true rfl, Nat.le_of_ble_eq_true rfl⟩, ⟨by show _ ≤ 399528; omega, by show _ ≤ 7902896; omega⟩, Nat.le_of_ble_eq_true rfl⟩ (cm_X11_range b a1 a2 I J) (Or.inr rfl) ?_
  show GL L xs E cs 911 [(0, .ref scx), (1, .ref 0), (2, .ref 81), (3, .ref 128), (4, .int x)] [.int r] (zs b, I1, J1)
  refine GL.g (fun _ k => G.aload_n 483 2 rfl rfl k) ?_
  refine GL.g (fun _ k => G.aload_n 484 0 rfl rfl k) ?_
  refine GL.g (fun _ k => G.iload 485 4 rfl rfl k) ?_
  refine GL.g (fun _ k => G.iconst (1 : Int32) 486 rfl (by decide) k) ?_
  refine GL.g (fun _ k => G.iadd 487 rfl k) ?_
  refine GL.sld 488 rfl h1 e1 ?_
  refine GL.g (fun _ k => G.aload_n 489 0 rfl rfl k) ?_
  refine GL.g (fun _ k => G.iload 490 4 rfl rfl k) ?_
  refine GL.g (fun _ k => G.iconst (2 : Int32) 491 rfl (by decide) k) ?_
  refine GL.g (fun _ k => G.iadd 492 rfl k) ?_
  refine GL.sld 493 rfl h2 e2 ?_
  refine GL.cV (d := 26) (mc := 0) (ms := 0) (av := [.int a1, .int a2]) (rs := [.int a2, .int a1]) (b := 81) (r, I2, J2) hM 494 rfl co_L_131 rfl rfl rfl rfl rfl ⟨⟨Nat.le_of_ble_eq_true rfl, Nat.le_of_ble_eq_true rfl⟩, ⟨by show _ ≤ 399528; omega, by show _ ≤ 7902896; omega⟩, Nat.le_of_ble_eq_true rfl⟩ (cm_X12_range b a1 a2 I1 J1) (Or.inr rfl) ?_
  show GL L xs E cs 927 [(0, .ref scx), (1, .ref 0), (2, .ref 81), (3, .ref 128), (4, .int x)] [.int r, .int r] (zs b, I2, J2)
  refine GL.same 1721 495 rfl (by decide) ?_
  exact k
set_option maxRecDepth 100000 in
theorem lc_23 {L : Nat} {xs : Nat → Int32} {E : Ex} {cs : Nat × Nat} (b : Bool) (x a1 a2 a3 a4 : Int32) (I : HI) (J : HJ) (hcs : cs.1 + 2 ≤ 399528 ∧ cs.2 + 59392 ≤ 7902896) (h1 : vp_in (x + (1 : Int32)) L) (h2 : vp_in (x + (2 : Int32)) L) (h3 : vp_in (x + (3 : Int32)) L) (h4 : vp_in (x + (4 : Int32)) L) (e1 : xs (x + (1 : Int32)).toNatClampNeg = a1) (e2 : xs (x + (2 : Int32)).toNatClampNeg = a2) (e3 : xs (x + (3 : Int32)).toNatClampNeg = a3) (e4 : xs (x + (4 : Int32)).toNatClampNeg = a4) (r : Int32) (I1 : HI) (J1 : HJ) (I2 : HI) (J2 : HJ) (hX : F_X11_picture a1 (lgA a2 a3) I J = some (r, I1, J1)) (hM : F_X12_picture a1 (lgA a2 a3) I1 J1 = some (r, I2, J2)) (k : GL L xs E cs 1721 (lvL x) [] (zs b, I2, J2)) : GL L xs E cs 932 (lvL x) [] (zs b, I, J) := by
  refine GL.g (fun _ k => G.aload_n 498 1 rfl rfl k) ?_
  refine GL.g (fun _ k => G.aload_n 499 0 rfl rfl k) ?_
  refine GL.g (fun _ k => G.iload 500 4 rfl rfl k) ?_
  refine GL.g (fun _ k => G.iconst (1 : Int32) 501 rfl (by decide) k) ?_
  refine GL.g (fun _ k => G.iadd 502 rfl k) ?_
  refine GL.sld 503 rfl h1 e1 ?_
  refine GL.g (fun _ k => G.aload_n 504 0 rfl rfl k) ?_
  refine GL.g (fun _ k => G.iload 505 4 rfl rfl k) ?_
  refine GL.g (fun _ k => G.iconst (2 : Int32) 506 rfl (by decide) k) ?_
  refine GL.g (fun _ k => G.iadd 507 rfl k) ?_
  refine GL.sld 508 rfl h2 e2 ?_
  refine GL.g (fun _ k => G.i2l 509 rfl k) ?_
  refine GL.g (fun _ k => G.bipush (32 : Int32) 510 rfl (by decide) k) ?_
  refine GL.g (fun _ k => G.lshl 511 rfl k) ?_
  refine GL.g (fun _ k => G.aload_n 512 0 rfl rfl k) ?_
  refine GL.g (fun _ k => G.iload 513 4 rfl rfl k) ?_
  refine GL.g (fun _ k => G.iconst (3 : Int32) 514 rfl (by decide) k) ?_
  refine GL.g (fun _ k => G.iadd 515 rfl k) ?_
  refine GL.sld 516 rfl h3 e3 ?_
  refine GL.g (fun _ k => G.i2l 517 rfl k) ?_
  refine GL.g (fun _ k => G.ldc2 (4294967295 : Int64) 518 rfl ko_L_97 k) ?_
  refine GL.g (fun _ k => G.land 519 rfl k) ?_
  refine GL.g (fun _ k => G.lor 520 rfl k) ?_
  refine GL.cV (d := 2) (mc := 0) (ms := 0) (av := [.int a1, .long ((olshl (Int32.toInt64 a2) (32 : Int32)) ||| ((Int32.toInt64 a3) &&& (4294967295 : Int64)))]) (rs := [.long ((olshl (Int32.toInt64 a2) (32 : Int32)) ||| ((Int32.toInt64 a3) &&& (4294967295 : Int64))), .int a1]) (b := 0) (r, I1, J1) hX 521 rfl co_L_132 rfl rfl rfl rfl rfl ⟨⟨Nat.le_of_ble_eq_true rfl, Nat.le_of_ble_eq_true rfl⟩, ⟨by show _ ≤ 399528; omega, by show _ ≤ 7902896; omega⟩, Nat.le_of_ble_eq_true rfl⟩ (cm_X11_picture b a1 (lgA a2 a3) I J) (Or.inr rfl) ?_
  show GL L xs E cs 964 [(0, .ref scx), (1, .ref 0), (2, .ref 81), (3, .ref 128), (4, .int x)] [.int r] (zs b, I1, J1)
  refine GL.g (fun _ k => G.aload_n 522 2 rfl rfl k) ?_
  refine GL.g (fun _ k => G.aload_n 523 0 rfl rfl k) ?_
  refine GL.g (fun _ k => G.iload 524 4 rfl rfl k) ?_
  refine GL.g (fun _ k => G.iconst (1 : Int32) 525 rfl (by decide) k) ?_
  refine GL.g (fun _ k => G.iadd 526 rfl k) ?_
  refine GL.sld 527 rfl h1 e1 ?_
  refine GL.g (fun _ k => G.aload_n 528 0 rfl rfl k) ?_
  refine GL.g (fun _ k => G.iload 529 4 rfl rfl k) ?_
  refine GL.g (fun _ k => G.iconst (2 : Int32) 530 rfl (by decide) k) ?_
  refine GL.g (fun _ k => G.iadd 531 rfl k) ?_
  refine GL.sld 532 rfl h2 e2 ?_
  refine GL.g (fun _ k => G.i2l 533 rfl k) ?_
  refine GL.g (fun _ k => G.bipush (32 : Int32) 534 rfl (by decide) k) ?_
  refine GL.g (fun _ k => G.lshl 535 rfl k) ?_
  refine GL.g (fun _ k => G.aload_n 536 0 rfl rfl k) ?_
  refine GL.g (fun _ k => G.iload 537 4 rfl rfl k) ?_
  refine GL.g (fun _ k => G.iconst (3 : Int32) 538 rfl (by decide) k) ?_
  refine GL.g (fun _ k => G.iadd 539 rfl k) ?_
  refine GL.sld 540 rfl h3 e3 ?_
  refine GL.g (fun _ k => G.i2l 541 rfl k) ?_
  refine GL.g (fun _ k => G.ldc2 (4294967295 : Int64) 542 rfl ko_L_97 k) ?_
  refine GL.g (fun _ k => G.land 543 rfl k) ?_
  refine GL.g (fun _ k => G.lor 544 rfl k) ?_
  refine GL.cV (d := 3) (mc := 0) (ms := 0) (av := [.int a1, .long ((olshl (Int32.toInt64 a2) (32 : Int32)) ||| ((Int32.toInt64 a3) &&& (4294967295 : Int64)))]) (rs := [.long ((olshl (Int32.toInt64 a2) (32 : Int32)) ||| ((Int32.toInt64 a3) &&& (4294967295 : Int64))), .int a1]) (b := 81) (r, I2, J2) hM 545 rfl co_L_136 rfl rfl rfl rfl rfl ⟨⟨Nat.le_of_ble_eq_true rfl, Nat.le_of_ble_eq_true rfl⟩, ⟨by show _ ≤ 399528; omega, by show _ ≤ 7902896; omega⟩, Nat.le_of_ble_eq_true rfl⟩ (cm_X12_picture b a1 (lgA a2 a3) I1 J1) (Or.inr rfl) ?_
  show GL L xs E cs 996 [(0, .ref scx), (1, .ref 0), (2, .ref 81), (3, .ref 128), (4, .int x)] [.int r, .int r] (zs b, I2, J2)
  refine GL.same 1721 546 rfl (by decide) ?_
  exact k
set_option maxRecDepth 100000 in
theorem lc_24 {L : Nat} {xs : Nat → Int32} {E : Ex} {cs : Nat × Nat} (b : Bool) (x a1 a2 a3 a4 : Int32) (I : HI) (J : HJ) (hcs : cs.1 + 2 ≤ 399528 ∧ cs.2 + 59392 ≤ 7902896) (h1 : vp_in (x + (1 : Int32)) L) (h2 : vp_in (x + (2 : Int32)) L) (h3 : vp_in (x + (3 : Int32)) L) (h4 : vp_in (x + (4 : Int32)) L) (e1 : xs (x + (1 : Int32)).toNatClampNeg = a1) (e2 : xs (x + (2 : Int32)).toNatClampNeg = a2) (e3 : xs (x + (3 : Int32)).toNatClampNeg = a3) (e4 : xs (x + (4 : Int32)).toNatClampNeg = a4) (r : Int32) (I1 : HI) (J1 : HJ) (I2 : HI) (J2 : HJ) (hX : F_X11_parted a1 I J = some (r, I1, J1)) (hM : F_X12_parted a1 I1 J1 = some (r, I2, J2)) (k : GL L xs E cs 1721 (lvL x) [] (zs b, I2, J2)) : GL L xs E cs 1001 (lvL x) [] (zs b, I, J) := by
  refine GL.g (fun _ k => G.aload_n 549 1 rfl rfl k) ?_
  refine GL.g (fun _ k => G.aload_n 550 0 rfl rfl k) ?_
  refine GL.g (fun _ k => G.iload 551 4 rfl rfl k) ?_
  refine GL.g (fun _ k => G.iconst (1 : Int32) 552 rfl (by decide) k) ?_
  refine GL.g (fun _ k => G.iadd 553 rfl k) ?_
  refine GL.sld 554 rfl h1 e1 ?_
  refine GL.cV (d := 27) (mc := 0) (ms := 0) (av := [.int a1]) (rs := [.int a1]) (b := 0) (r, I1, J1) hX 555 rfl co_L_137 rfl rfl rfl rfl rfl ⟨⟨Nat.le_of_ble_eq_true rfl, Nat.le_of_ble_eq_true rfl⟩, ⟨by show _ ≤ 399528; omega, by show _ ≤ 7902896; omega⟩, Nat.le_of_ble_eq_true rfl⟩ (cm_X11_parted b a1 I J) (Or.inr rfl) ?_
  show GL L xs E cs 1011 [(0, .ref scx), (1, .ref 0), (2, .ref 81), (3, .ref 128), (4, .int x)] [.int r] (zs b, I1, J1)
  refine GL.g (fun _ k => G.aload_n 556 2 rfl rfl k) ?_
  refine GL.g (fun _ k => G.aload_n 557 0 rfl rfl k) ?_
  refine GL.g (fun _ k => G.iload 558 4 rfl rfl k) ?_
  refine GL.g (fun _ k => G.iconst (1 : Int32) 559 rfl (by decide) k) ?_
  refine GL.g (fun _ k => G.iadd 560 rfl k) ?_
  refine GL.sld 561 rfl h1 e1 ?_
  refine GL.cV (d := 29) (mc := 0) (ms := 0) (av := [.int a1]) (rs := [.int a1]) (b := 81) (r, I2, J2) hM 562 rfl co_L_140 rfl rfl rfl rfl rfl ⟨⟨Nat.le_of_ble_eq_true rfl, Nat.le_of_ble_eq_true rfl⟩, ⟨by show _ ≤ 399528; omega, by show _ ≤ 7902896; omega⟩, Nat.le_of_ble_eq_true rfl⟩ (cm_X12_parted b a1 I1 J1) (Or.inr rfl) ?_
  show GL L xs E cs 1021 [(0, .ref scx), (1, .ref 0), (2, .ref 81), (3, .ref 128), (4, .int x)] [.int r, .int r] (zs b, I2, J2)
  refine GL.same 1721 563 rfl (by decide) ?_
  exact k
set_option maxRecDepth 100000 in
theorem lc_25 {L : Nat} {xs : Nat → Int32} {E : Ex} {cs : Nat × Nat} (b : Bool) (x a1 a2 a3 a4 : Int32) (I : HI) (J : HJ) (hcs : cs.1 + 2 ≤ 399528 ∧ cs.2 + 59392 ≤ 7902896) (h1 : vp_in (x + (1 : Int32)) L) (h2 : vp_in (x + (2 : Int32)) L) (h3 : vp_in (x + (3 : Int32)) L) (h4 : vp_in (x + (4 : Int32)) L) (e1 : xs (x + (1 : Int32)).toNatClampNeg = a1) (e2 : xs (x + (2 : Int32)).toNatClampNeg = a2) (e3 : xs (x + (3 : Int32)).toNatClampNeg = a3) (e4 : xs (x + (4 : Int32)).toNatClampNeg = a4) (r : Int32) (I1 : HI) (J1 : HJ) (I2 : HI) (J2 : HJ) (hX : F_X11_proof a1 I J = some (r, I1, J1)) (hM : F_X12_proof a1 I1 J1 = some (r, I2, J2)) (k : GL L xs E cs 1721 (lvL x) [] (zs b, I2, J2)) : GL L xs E cs 1026 (lvL x) [] (zs b, I, J) := by
  refine GL.g (fun _ k => G.aload_n 566 1 rfl rfl k) ?_
  refine GL.g (fun _ k => G.aload_n 567 0 rfl rfl k) ?_
  refine GL.g (fun _ k => G.iload 568 4 rfl rfl k) ?_
  refine GL.g (fun _ k => G.iconst (1 : Int32) 569 rfl (by decide) k) ?_
  refine GL.g (fun _ k => G.iadd 570 rfl k) ?_
  refine GL.sld 571 rfl h1 e1 ?_
  refine GL.cV (d := 26) (mc := 0) (ms := 0) (av := [.int a1]) (rs := [.int a1]) (b := 0) (r, I1, J1) hX 572 rfl co_L_141 rfl rfl rfl rfl rfl ⟨⟨Nat.le_of_ble_eq_true rfl, Nat.le_of_ble_eq_true rfl⟩, ⟨by show _ ≤ 399528; omega, by show _ ≤ 7902896; omega⟩, Nat.le_of_ble_eq_true rfl⟩ (cm_X11_proof b a1 I J) (Or.inr rfl) ?_
  show GL L xs E cs 1036 [(0, .ref scx), (1, .ref 0), (2, .ref 81), (3, .ref 128), (4, .int x)] [.int r] (zs b, I1, J1)
  refine GL.g (fun _ k => G.aload_n 573 2 rfl rfl k) ?_
  refine GL.g (fun _ k => G.aload_n 574 0 rfl rfl k) ?_
  refine GL.g (fun _ k => G.iload 575 4 rfl rfl k) ?_
  refine GL.g (fun _ k => G.iconst (1 : Int32) 576 rfl (by decide) k) ?_
  refine GL.g (fun _ k => G.iadd 577 rfl k) ?_
  refine GL.sld 578 rfl h1 e1 ?_
  refine GL.cV (d := 28) (mc := 0) (ms := 0) (av := [.int a1]) (rs := [.int a1]) (b := 81) (r, I2, J2) hM 579 rfl co_L_144 rfl rfl rfl rfl rfl ⟨⟨Nat.le_of_ble_eq_true rfl, Nat.le_of_ble_eq_true rfl⟩, ⟨by show _ ≤ 399528; omega, by show _ ≤ 7902896; omega⟩, Nat.le_of_ble_eq_true rfl⟩ (cm_X12_proof b a1 I1 J1) (Or.inr rfl) ?_
  show GL L xs E cs 1046 [(0, .ref scx), (1, .ref 0), (2, .ref 81), (3, .ref 128), (4, .int x)] [.int r, .int r] (zs b, I2, J2)
  refine GL.same 1721 580 rfl (by decide) ?_
  exact k
set_option maxRecDepth 100000 in
theorem lc_26 {L : Nat} {xs : Nat → Int32} {E : Ex} {cs : Nat × Nat} (b : Bool) (x a1 a2 a3 a4 : Int32) (I : HI) (J : HJ) (hcs : cs.1 + 2 ≤ 399528 ∧ cs.2 + 59392 ≤ 7902896) (h1 : vp_in (x + (1 : Int32)) L) (h2 : vp_in (x + (2 : Int32)) L) (h3 : vp_in (x + (3 : Int32)) L) (h4 : vp_in (x + (4 : Int32)) L) (e1 : xs (x + (1 : Int32)).toNatClampNeg = a1) (e2 : xs (x + (2 : Int32)).toNatClampNeg = a2) (e3 : xs (x + (3 : Int32)).toNatClampNeg = a3) (e4 : xs (x + (4 : Int32)).toNatClampNeg = a4) (r : Int64) (I1 : HI) (J1 : HJ) (I2 : HI) (J2 : HJ) (hX : F_X11_never a1 I J = some (r, I1, J1)) (hM : F_X12_never a1 I1 J1 = some (r, I2, J2)) (k : GL L xs E cs 1721 (lvL x) [] (zs b, I2, J2)) : GL L xs E cs 1051 (lvL x) [] (zs b, I, J) := by
  refine GL.g (fun _ k => G.aload_n 583 1 rfl rfl k) ?_
  refine GL.g (fun _ k => G.aload_n 584 0 rfl rfl k) ?_
  refine GL.g (fun _ k => G.iload 585 4 rfl rfl k) ?_
  refine GL.g (fun _ k => G.iconst (1 : Int32) 586 rfl (by decide) k) ?_
  refine GL.g (fun _ k => G.iadd 587 rfl k) ?_
  refine GL.sld 588 rfl h1 e1 ?_
  refine GL.cV (d := 26) (mc := 0) (ms := 0) (av := [.int a1]) (rs := [.int a1]) (b := 0) (r, I1, J1) hX 589 rfl co_L_145 rfl rfl rfl rfl rfl ⟨⟨Nat.le_of_ble_eq_true rfl, Nat.le_of_ble_eq_true rfl⟩, ⟨by show _ ≤ 399528; omega, by show _ ≤ 7902896; omega⟩, Nat.le_of_ble_eq_true rfl⟩ (cm_X11_never b a1 I J) (Or.inr rfl) ?_
  show GL L xs E cs 1061 [(0, .ref scx), (1, .ref 0), (2, .ref 81), (3, .ref 128), (4, .int x)] [.long r] (zs b, I1, J1)
  refine GL.g (fun _ k => G.aload_n 590 2 rfl rfl k) ?_
  refine GL.g (fun _ k => G.aload_n 591 0 rfl rfl k) ?_
  refine GL.g (fun _ k => G.iload 592 4 rfl rfl k) ?_
  refine GL.g (fun _ k => G.iconst (1 : Int32) 593 rfl (by decide) k) ?_
  refine GL.g (fun _ k => G.iadd 594 rfl k) ?_
  refine GL.sld 595 rfl h1 e1 ?_
  refine GL.cV (d := 27) (mc := 0) (ms := 0) (av := [.int a1]) (rs := [.int a1]) (b := 81) (r, I2, J2) hM 596 rfl co_L_148 rfl rfl rfl rfl rfl ⟨⟨Nat.le_of_ble_eq_true rfl, Nat.le_of_ble_eq_true rfl⟩, ⟨by show _ ≤ 399528; omega, by show _ ≤ 7902896; omega⟩, Nat.le_of_ble_eq_true rfl⟩ (cm_X12_never b a1 I1 J1) (Or.inr rfl) ?_
  show GL L xs E cs 1071 [(0, .ref scx), (1, .ref 0), (2, .ref 81), (3, .ref 128), (4, .int x)] [.long r, .long r] (zs b, I2, J2)
  refine GL.lsame 1721 598 597 rfl rfl (by decide) ?_
  exact k
set_option maxRecDepth 100000 in
theorem lc_27 {L : Nat} {xs : Nat → Int32} {E : Ex} {cs : Nat × Nat} (b : Bool) (x a1 a2 a3 a4 : Int32) (I : HI) (J : HJ) (hcs : cs.1 + 2 ≤ 399528 ∧ cs.2 + 59392 ≤ 7902896) (h1 : vp_in (x + (1 : Int32)) L) (h2 : vp_in (x + (2 : Int32)) L) (h3 : vp_in (x + (3 : Int32)) L) (h4 : vp_in (x + (4 : Int32)) L) (e1 : xs (x + (1 : Int32)).toNatClampNeg = a1) (e2 : xs (x + (2 : Int32)).toNatClampNeg = a2) (e3 : xs (x + (3 : Int32)).toNatClampNeg = a3) (e4 : xs (x + (4 : Int32)).toNatClampNeg = a4) (r : Int32) (I1 : HI) (J1 : HJ) (I2 : HI) (J2 : HJ) (hX : F_X11_changes a1 I J = some (r, I1, J1)) (hM : F_X12_changes a1 I1 J1 = some (r, I2, J2)) (k : GL L xs E cs 1721 (lvL x) [] (zs b, I2, J2)) : GL L xs E cs 1077 (lvL x) [] (zs b, I, J) := by
  refine GL.g (fun _ k => G.aload_n 601 1 rfl rfl k) ?_
  refine GL.g (fun _ k => G.aload_n 602 0 rfl rfl k) ?_
  refine GL.g (fun _ k => G.iload 603 4 rfl rfl k) ?_
  refine GL.g (fun _ k => G.iconst (1 : Int32) 604 rfl (by decide) k) ?_
  refine GL.g (fun _ k => G.iadd 605 rfl k) ?_
  refine GL.sld 606 rfl h1 e1 ?_
  refine GL.cV (d := 27) (mc := 0) (ms := 0) (av := [.int a1]) (rs := [.int a1]) (b := 0) (r, I1, J1) hX 607 rfl co_L_149 rfl rfl rfl rfl rfl ⟨⟨Nat.le_of_ble_eq_true rfl, Nat.le_of_ble_eq_true rfl⟩, ⟨by show _ ≤ 399528; omega, by show _ ≤ 7902896; omega⟩, Nat.le_of_ble_eq_true rfl⟩ (cm_X11_changes b a1 I J) (Or.inr rfl) ?_
  show GL L xs E cs 1087 [(0, .ref scx), (1, .ref 0), (2, .ref 81), (3, .ref 128), (4, .int x)] [.int r] (zs b, I1, J1)
  refine GL.g (fun _ k => G.aload_n 608 2 rfl rfl k) ?_
  refine GL.g (fun _ k => G.aload_n 609 0 rfl rfl k) ?_
  refine GL.g (fun _ k => G.iload 610 4 rfl rfl k) ?_
  refine GL.g (fun _ k => G.iconst (1 : Int32) 611 rfl (by decide) k) ?_
  refine GL.g (fun _ k => G.iadd 612 rfl k) ?_
  refine GL.sld 613 rfl h1 e1 ?_
  refine GL.cV (d := 29) (mc := 0) (ms := 0) (av := [.int a1]) (rs := [.int a1]) (b := 81) (r, I2, J2) hM 614 rfl co_L_152 rfl rfl rfl rfl rfl ⟨⟨Nat.le_of_ble_eq_true rfl, Nat.le_of_ble_eq_true rfl⟩, ⟨by show _ ≤ 399528; omega, by show _ ≤ 7902896; omega⟩, Nat.le_of_ble_eq_true rfl⟩ (cm_X12_changes b a1 I1 J1) (Or.inr rfl) ?_
  show GL L xs E cs 1097 [(0, .ref scx), (1, .ref 0), (2, .ref 81), (3, .ref 128), (4, .int x)] [.int r, .int r] (zs b, I2, J2)
  refine GL.same 1721 615 rfl (by decide) ?_
  exact k
set_option maxRecDepth 100000 in
theorem lc_28 {L : Nat} {xs : Nat → Int32} {E : Ex} {cs : Nat × Nat} (b : Bool) (x a1 a2 a3 a4 : Int32) (I : HI) (J : HJ) (hcs : cs.1 + 2 ≤ 399528 ∧ cs.2 + 59392 ≤ 7902896) (h1 : vp_in (x + (1 : Int32)) L) (h2 : vp_in (x + (2 : Int32)) L) (h3 : vp_in (x + (3 : Int32)) L) (h4 : vp_in (x + (4 : Int32)) L) (e1 : xs (x + (1 : Int32)).toNatClampNeg = a1) (e2 : xs (x + (2 : Int32)).toNatClampNeg = a2) (e3 : xs (x + (3 : Int32)).toNatClampNeg = a3) (e4 : xs (x + (4 : Int32)).toNatClampNeg = a4) (r : Int64) (I1 : HI) (J1 : HJ) (I2 : HI) (J2 : HJ) (hX : F_X11_even a1 a2 I J = some (r, I1, J1)) (hM : F_X12_even a1 a2 I1 J1 = some (r, I2, J2)) (k : GL L xs E cs 1721 (lvL x) [] (zs b, I2, J2)) : GL L xs E cs 1102 (lvL x) [] (zs b, I, J) := by
  refine GL.g (fun _ k => G.aload_n 618 1 rfl rfl k) ?_
  refine GL.g (fun _ k => G.aload_n 619 0 rfl rfl k) ?_
  refine GL.g (fun _ k => G.iload 620 4 rfl rfl k) ?_
  refine GL.g (fun _ k => G.iconst (1 : Int32) 621 rfl (by decide) k) ?_
  refine GL.g (fun _ k => G.iadd 622 rfl k) ?_
  refine GL.sld 623 rfl h1 e1 ?_
  refine GL.g (fun _ k => G.aload_n 624 0 rfl rfl k) ?_
  refine GL.g (fun _ k => G.iload 625 4 rfl rfl k) ?_
  refine GL.g (fun _ k => G.iconst (2 : Int32) 626 rfl (by decide) k) ?_
  refine GL.g (fun _ k => G.iadd 627 rfl k) ?_
  refine GL.sld 628 rfl h2 e2 ?_
  refine GL.cV (d := 27) (mc := 0) (ms := 0) (av := [.int a1, .int a2]) (rs := [.int a2, .int a1]) (b := 0) (r, I1, J1) hX 629 rfl co_L_153 rfl rfl rfl rfl rfl ⟨⟨Nat.le_of_ble_eq_true rfl, Nat.le_of_ble_eq_true rfl⟩, ⟨by show _ ≤ 399528; omega, by show _ ≤ 7902896; omega⟩, Nat.le_of_ble_eq_true rfl⟩ (cm_X11_even b a1 a2 I J) (Or.inr rfl) ?_
  show GL L xs E cs 1118 [(0, .ref scx), (1, .ref 0), (2, .ref 81), (3, .ref 128), (4, .int x)] [.long r] (zs b, I1, J1)
  refine GL.g (fun _ k => G.aload_n 630 2 rfl rfl k) ?_
  refine GL.g (fun _ k => G.aload_n 631 0 rfl rfl k) ?_
  refine GL.g (fun _ k => G.iload 632 4 rfl rfl k) ?_
  refine GL.g (fun _ k => G.iconst (1 : Int32) 633 rfl (by decide) k) ?_
  refine GL.g (fun _ k => G.iadd 634 rfl k) ?_
  refine GL.sld 635 rfl h1 e1 ?_
  refine GL.g (fun _ k => G.aload_n 636 0 rfl rfl k) ?_
  refine GL.g (fun _ k => G.iload 637 4 rfl rfl k) ?_
  refine GL.g (fun _ k => G.iconst (2 : Int32) 638 rfl (by decide) k) ?_
  refine GL.g (fun _ k => G.iadd 639 rfl k) ?_
  refine GL.sld 640 rfl h2 e2 ?_
  refine GL.cV (d := 29) (mc := 0) (ms := 0) (av := [.int a1, .int a2]) (rs := [.int a2, .int a1]) (b := 81) (r, I2, J2) hM 641 rfl co_L_157 rfl rfl rfl rfl rfl ⟨⟨Nat.le_of_ble_eq_true rfl, Nat.le_of_ble_eq_true rfl⟩, ⟨by show _ ≤ 399528; omega, by show _ ≤ 7902896; omega⟩, Nat.le_of_ble_eq_true rfl⟩ (cm_X12_even b a1 a2 I1 J1) (Or.inr rfl) ?_
  show GL L xs E cs 1134 [(0, .ref scx), (1, .ref 0), (2, .ref 81), (3, .ref 128), (4, .int x)] [.long r, .long r] (zs b, I2, J2)
  refine GL.lsame 1721 643 642 rfl rfl (by decide) ?_
  exact k
set_option maxRecDepth 100000 in
theorem lc_29 {L : Nat} {xs : Nat → Int32} {E : Ex} {cs : Nat × Nat} (b : Bool) (x a1 a2 a3 a4 : Int32) (I : HI) (J : HJ) (hcs : cs.1 + 2 ≤ 399528 ∧ cs.2 + 59392 ≤ 7902896) (h1 : vp_in (x + (1 : Int32)) L) (h2 : vp_in (x + (2 : Int32)) L) (h3 : vp_in (x + (3 : Int32)) L) (h4 : vp_in (x + (4 : Int32)) L) (e1 : xs (x + (1 : Int32)).toNatClampNeg = a1) (e2 : xs (x + (2 : Int32)).toNatClampNeg = a2) (e3 : xs (x + (3 : Int32)).toNatClampNeg = a3) (e4 : xs (x + (4 : Int32)).toNatClampNeg = a4) (r : Int32) (I1 : HI) (J1 : HJ) (I2 : HI) (J2 : HJ) (hX : F_X11_better a1 I J = some (r, I1, J1)) (hM : F_X12_better a1 I1 J1 = some (r, I2, J2)) (k : GL L xs E cs 1721 (lvL x) [] (zs b, I2, J2)) : GL L xs E cs 1140 (lvL x) [] (zs b, I, J) := by
  refine GL.g (fun _ k => G.aload_n 646 1 rfl rfl k) ?_
  refine GL.g (fun _ k => G.aload_n 647 0 rfl rfl k) ?_
  refine GL.g (fun _ k => G.iload 648 4 rfl rfl k) ?_
  refine GL.g (fun _ k => G.iconst (1 : Int32) 649 rfl (by decide) k) ?_
  refine GL.g (fun _ k => G.iadd 650 rfl k) ?_
  refine GL.sld 651 rfl h1 e1 ?_
  refine GL.cV (d := 27) (mc := 0) (ms := 0) (av := [.int a1]) (rs := [.int a1]) (b := 0) (r, I1, J1) hX 652 rfl co_L_158 rfl rfl rfl rfl rfl ⟨⟨Nat.le_of_ble_eq_true rfl, Nat.le_of_ble_eq_true rfl⟩, ⟨by show _ ≤ 399528; omega, by show _ ≤ 7902896; omega⟩, Nat.le_of_ble_eq_true rfl⟩ (cm_X11_better b a1 I J) (Or.inr rfl) ?_
  show GL L xs E cs 1150 [(0, .ref scx), (1, .ref 0), (2, .ref 81), (3, .ref 128), (4, .int x)] [.int r] (zs b, I1, J1)
  refine GL.g (fun _ k => G.aload_n 653 2 rfl rfl k) ?_
  refine GL.g (fun _ k => G.aload_n 654 0 rfl rfl k) ?_
  refine GL.g (fun _ k => G.iload 655 4 rfl rfl k) ?_
  refine GL.g (fun _ k => G.iconst (1 : Int32) 656 rfl (by decide) k) ?_
  refine GL.g (fun _ k => G.iadd 657 rfl k) ?_
  refine GL.sld 658 rfl h1 e1 ?_
  refine GL.cV (d := 29) (mc := 0) (ms := 0) (av := [.int a1]) (rs := [.int a1]) (b := 81) (r, I2, J2) hM 659 rfl co_L_161 rfl rfl rfl rfl rfl ⟨⟨Nat.le_of_ble_eq_true rfl, Nat.le_of_ble_eq_true rfl⟩, ⟨by show _ ≤ 399528; omega, by show _ ≤ 7902896; omega⟩, Nat.le_of_ble_eq_true rfl⟩ (cm_X12_better b a1 I1 J1) (Or.inr rfl) ?_
  show GL L xs E cs 1160 [(0, .ref scx), (1, .ref 0), (2, .ref 81), (3, .ref 128), (4, .int x)] [.int r, .int r] (zs b, I2, J2)
  refine GL.same 1721 660 rfl (by decide) ?_
  exact k
set_option maxRecDepth 100000 in
theorem lc_30 {L : Nat} {xs : Nat → Int32} {E : Ex} {cs : Nat × Nat} (b : Bool) (x a1 a2 a3 a4 : Int32) (I : HI) (J : HJ) (hcs : cs.1 + 2 ≤ 399528 ∧ cs.2 + 59392 ≤ 7902896) (h1 : vp_in (x + (1 : Int32)) L) (h2 : vp_in (x + (2 : Int32)) L) (h3 : vp_in (x + (3 : Int32)) L) (h4 : vp_in (x + (4 : Int32)) L) (e1 : xs (x + (1 : Int32)).toNatClampNeg = a1) (e2 : xs (x + (2 : Int32)).toNatClampNeg = a2) (e3 : xs (x + (3 : Int32)).toNatClampNeg = a3) (e4 : xs (x + (4 : Int32)).toNatClampNeg = a4) (r : Int32) (I1 : HI) (J1 : HJ) (I2 : HI) (J2 : HJ) (hX : F_X11_faults I J = some (r, I1, J1)) (hM : F_X12_faults I1 J1 = some (r, I2, J2)) (k : GL L xs E cs 1721 (lvL x) [] (zs b, I2, J2)) : GL L xs E cs 1165 (lvL x) [] (zs b, I, J) := by
  refine GL.g (fun _ k => G.aload_n 663 1 rfl rfl k) ?_
  refine GL.cV (d := 4) (mc := 0) (ms := 0) (av := []) (rs := []) (b := 0) (r, I1, J1) hX 664 rfl co_L_162 rfl rfl rfl rfl rfl ⟨⟨Nat.le_of_ble_eq_true rfl, Nat.le_of_ble_eq_true rfl⟩, ⟨by show _ ≤ 399528; omega, by show _ ≤ 7902896; omega⟩, Nat.le_of_ble_eq_true rfl⟩ (cm_X11_faults b I J) (Or.inr rfl) ?_
  show GL L xs E cs 1169 [(0, .ref scx), (1, .ref 0), (2, .ref 81), (3, .ref 128), (4, .int x)] [.int r] (zs b, I1, J1)
  refine GL.g (fun _ k => G.aload_n 665 2 rfl rfl k) ?_
  refine GL.cV (d := 3) (mc := 0) (ms := 0) (av := []) (rs := []) (b := 81) (r, I2, J2) hM 666 rfl co_L_165 rfl rfl rfl rfl rfl ⟨⟨Nat.le_of_ble_eq_true rfl, Nat.le_of_ble_eq_true rfl⟩, ⟨by show _ ≤ 399528; omega, by show _ ≤ 7902896; omega⟩, Nat.le_of_ble_eq_true rfl⟩ (cm_X12_faults b I1 J1) (Or.inr rfl) ?_
  show GL L xs E cs 1173 [(0, .ref scx), (1, .ref 0), (2, .ref 81), (3, .ref 128), (4, .int x)] [.int r, .int r] (zs b, I2, J2)
  refine GL.same 1721 667 rfl (by decide) ?_
  exact k
set_option maxRecDepth 100000 in
theorem lc_32 {L : Nat} {xs : Nat → Int32} {E : Ex} {cs : Nat × Nat} (b : Bool) (x a1 a2 a3 a4 : Int32) (I : HI) (J : HJ) (hcs : cs.1 + 2 ≤ 399528 ∧ cs.2 + 59392 ≤ 7902896) (h1 : vp_in (x + (1 : Int32)) L) (h2 : vp_in (x + (2 : Int32)) L) (h3 : vp_in (x + (3 : Int32)) L) (h4 : vp_in (x + (4 : Int32)) L) (e1 : xs (x + (1 : Int32)).toNatClampNeg = a1) (e2 : xs (x + (2 : Int32)).toNatClampNeg = a2) (e3 : xs (x + (3 : Int32)).toNatClampNeg = a3) (e4 : xs (x + (4 : Int32)).toNatClampNeg = a4) (r : Int64) (I1 : HI) (J1 : HJ) (I2 : HI) (J2 : HJ) (hX : F_X11_would a1 a2 a3 I J = some (r, I1, J1)) (hM : F_X12_would a1 a2 a3 I1 J1 = some (r, I2, J2)) (k : GL L xs E cs 1721 (lvL x) [] (zs b, I2, J2)) : GL L xs E cs 1246 (lvL x) [] (zs b, I, J) := by
  refine GL.g (fun _ k => G.aload_n 715 1 rfl rfl k) ?_
  refine GL.g (fun _ k => G.aload_n 716 0 rfl rfl k) ?_
  refine GL.g (fun _ k => G.iload 717 4 rfl rfl k) ?_
  refine GL.g (fun _ k => G.iconst (1 : Int32) 718 rfl (by decide) k) ?_
  refine GL.g (fun _ k => G.iadd 719 rfl k) ?_
  refine GL.sld 720 rfl h1 e1 ?_
  refine GL.g (fun _ k => G.aload_n 721 0 rfl rfl k) ?_
  refine GL.g (fun _ k => G.iload 722 4 rfl rfl k) ?_
  refine GL.g (fun _ k => G.iconst (2 : Int32) 723 rfl (by decide) k) ?_
  refine GL.g (fun _ k => G.iadd 724 rfl k) ?_
  refine GL.sld 725 rfl h2 e2 ?_
  refine GL.g (fun _ k => G.aload_n 726 0 rfl rfl k) ?_
  refine GL.g (fun _ k => G.iload 727 4 rfl rfl k) ?_
  refine GL.g (fun _ k => G.iconst (3 : Int32) 728 rfl (by decide) k) ?_
  refine GL.g (fun _ k => G.iadd 729 rfl k) ?_
  refine GL.sld 730 rfl h3 e3 ?_
  refine GL.cV (d := 25) (mc := 0) (ms := 0) (av := [.int a1, .int a2, .int a3]) (rs := [.int a3, .int a2, .int a1]) (b := 0) (r, I1, J1) hX 731 rfl co_L_169 rfl rfl rfl rfl rfl ⟨⟨Nat.le_of_ble_eq_true rfl, Nat.le_of_ble_eq_true rfl⟩, ⟨by show _ ≤ 399528; omega, by show _ ≤ 7902896; omega⟩, Nat.le_of_ble_eq_true rfl⟩ (cm_X11_would b a1 a2 a3 I J) (Or.inr rfl) ?_
  show GL L xs E cs 1268 [(0, .ref scx), (1, .ref 0), (2, .ref 81), (3, .ref 128), (4, .int x)] [.long r] (zs b, I1, J1)
  refine GL.g (fun _ k => G.aload_n 732 2 rfl rfl k) ?_
  refine GL.g (fun _ k => G.aload_n 733 0 rfl rfl k) ?_
  refine GL.g (fun _ k => G.iload 734 4 rfl rfl k) ?_
  refine GL.g (fun _ k => G.iconst (1 : Int32) 735 rfl (by decide) k) ?_
  refine GL.g (fun _ k => G.iadd 736 rfl k) ?_
  refine GL.sld 737 rfl h1 e1 ?_
  refine GL.g (fun _ k => G.aload_n 738 0 rfl rfl k) ?_
  refine GL.g (fun _ k => G.iload 739 4 rfl rfl k) ?_
  refine GL.g (fun _ k => G.iconst (2 : Int32) 740 rfl (by decide) k) ?_
  refine GL.g (fun _ k => G.iadd 741 rfl k) ?_
  refine GL.sld 742 rfl h2 e2 ?_
  refine GL.g (fun _ k => G.aload_n 743 0 rfl rfl k) ?_
  refine GL.g (fun _ k => G.iload 744 4 rfl rfl k) ?_
  refine GL.g (fun _ k => G.iconst (3 : Int32) 745 rfl (by decide) k) ?_
  refine GL.g (fun _ k => G.iadd 746 rfl k) ?_
  refine GL.sld 747 rfl h3 e3 ?_
  refine GL.cV (d := 26) (mc := 0) (ms := 0) (av := [.int a1, .int a2, .int a3]) (rs := [.int a3, .int a2, .int a1]) (b := 81) (r, I2, J2) hM 748 rfl co_L_173 rfl rfl rfl rfl rfl ⟨⟨Nat.le_of_ble_eq_true rfl, Nat.le_of_ble_eq_true rfl⟩, ⟨by show _ ≤ 399528; omega, by show _ ≤ 7902896; omega⟩, Nat.le_of_ble_eq_true rfl⟩ (cm_X12_would b a1 a2 a3 I1 J1) (Or.inr rfl) ?_
  show GL L xs E cs 1290 [(0, .ref scx), (1, .ref 0), (2, .ref 81), (3, .ref 128), (4, .int x)] [.long r, .long r] (zs b, I2, J2)
  refine GL.lsame 1721 750 749 rfl rfl (by decide) ?_
  exact k
set_option maxRecDepth 100000 in
theorem lc_33 {L : Nat} {xs : Nat → Int32} {E : Ex} {cs : Nat × Nat} (b : Bool) (x a1 a2 a3 a4 : Int32) (I : HI) (J : HJ) (hcs : cs.1 + 2 ≤ 399528 ∧ cs.2 + 59392 ≤ 7902896) (h1 : vp_in (x + (1 : Int32)) L) (h2 : vp_in (x + (2 : Int32)) L) (h3 : vp_in (x + (3 : Int32)) L) (h4 : vp_in (x + (4 : Int32)) L) (e1 : xs (x + (1 : Int32)).toNatClampNeg = a1) (e2 : xs (x + (2 : Int32)).toNatClampNeg = a2) (e3 : xs (x + (3 : Int32)).toNatClampNeg = a3) (e4 : xs (x + (4 : Int32)).toNatClampNeg = a4) (r : Int32) (I1 : HI) (J1 : HJ) (I2 : HI) (J2 : HJ) (hX : F_X11_tells a1 I J = some (r, I1, J1)) (hM : F_X12_tells a1 I1 J1 = some (r, I2, J2)) (k : GL L xs E cs 1721 (lvL x) [] (zs b, I2, J2)) : GL L xs E cs 1296 (lvL x) [] (zs b, I, J) := by
  refine GL.g (fun _ k => G.aload_n 753 1 rfl rfl k) ?_
  refine GL.g (fun _ k => G.aload_n 754 0 rfl rfl k) ?_
  refine GL.g (fun _ k => G.iload 755 4 rfl rfl k) ?_
  refine GL.g (fun _ k => G.iconst (1 : Int32) 756 rfl (by decide) k) ?_
  refine GL.g (fun _ k => G.iadd 757 rfl k) ?_
  refine GL.sld 758 rfl h1 e1 ?_
  refine GL.cV (d := 27) (mc := 0) (ms := 0) (av := [.int a1]) (rs := [.int a1]) (b := 0) (r, I1, J1) hX 759 rfl co_L_174 rfl rfl rfl rfl rfl ⟨⟨Nat.le_of_ble_eq_true rfl, Nat.le_of_ble_eq_true rfl⟩, ⟨by show _ ≤ 399528; omega, by show _ ≤ 7902896; omega⟩, Nat.le_of_ble_eq_true rfl⟩ (cm_X11_tells b a1 I J) (Or.inr rfl) ?_
  show GL L xs E cs 1306 [(0, .ref scx), (1, .ref 0), (2, .ref 81), (3, .ref 128), (4, .int x)] [.int r] (zs b, I1, J1)
  refine GL.g (fun _ k => G.aload_n 760 2 rfl rfl k) ?_
  refine GL.g (fun _ k => G.aload_n 761 0 rfl rfl k) ?_
  refine GL.g (fun _ k => G.iload 762 4 rfl rfl k) ?_
  refine GL.g (fun _ k => G.iconst (1 : Int32) 763 rfl (by decide) k) ?_
  refine GL.g (fun _ k => G.iadd 764 rfl k) ?_
  refine GL.sld 765 rfl h1 e1 ?_
  refine GL.cV (d := 26) (mc := 0) (ms := 0) (av := [.int a1]) (rs := [.int a1]) (b := 81) (r, I2, J2) hM 766 rfl co_L_177 rfl rfl rfl rfl rfl ⟨⟨Nat.le_of_ble_eq_true rfl, Nat.le_of_ble_eq_true rfl⟩, ⟨by show _ ≤ 399528; omega, by show _ ≤ 7902896; omega⟩, Nat.le_of_ble_eq_true rfl⟩ (cm_X12_tells b a1 I1 J1) (Or.inr rfl) ?_
  show GL L xs E cs 1316 [(0, .ref scx), (1, .ref 0), (2, .ref 81), (3, .ref 128), (4, .int x)] [.int r, .int r] (zs b, I2, J2)
  refine GL.same 1721 767 rfl (by decide) ?_
  exact k
set_option maxRecDepth 100000 in
theorem lc_34 {L : Nat} {xs : Nat → Int32} {E : Ex} {cs : Nat × Nat} (b : Bool) (x a1 a2 a3 a4 : Int32) (I : HI) (J : HJ) (hcs : cs.1 + 2 ≤ 399528 ∧ cs.2 + 59392 ≤ 7902896) (h1 : vp_in (x + (1 : Int32)) L) (h2 : vp_in (x + (2 : Int32)) L) (h3 : vp_in (x + (3 : Int32)) L) (h4 : vp_in (x + (4 : Int32)) L) (e1 : xs (x + (1 : Int32)).toNatClampNeg = a1) (e2 : xs (x + (2 : Int32)).toNatClampNeg = a2) (e3 : xs (x + (3 : Int32)).toNatClampNeg = a3) (e4 : xs (x + (4 : Int32)).toNatClampNeg = a4) (r : Int32) (I1 : HI) (J1 : HJ) (I2 : HI) (J2 : HJ) (hX : F_X11_hidden I J = some (r, I1, J1)) (hM : F_X12_hidden I1 J1 = some (r, I2, J2)) (k : GL L xs E cs 1721 (lvL x) [] (zs b, I2, J2)) : GL L xs E cs 1321 (lvL x) [] (zs b, I, J) := by
  refine GL.g (fun _ k => G.aload_n 770 1 rfl rfl k) ?_
  refine GL.cV (d := 27) (mc := 0) (ms := 0) (av := []) (rs := []) (b := 0) (r, I1, J1) hX 771 rfl co_L_178 rfl rfl rfl rfl rfl ⟨⟨Nat.le_of_ble_eq_true rfl, Nat.le_of_ble_eq_true rfl⟩, ⟨by show _ ≤ 399528; omega, by show _ ≤ 7902896; omega⟩, Nat.le_of_ble_eq_true rfl⟩ (cm_X11_hidden b I J) (Or.inr rfl) ?_
  show GL L xs E cs 1325 [(0, .ref scx), (1, .ref 0), (2, .ref 81), (3, .ref 128), (4, .int x)] [.int r] (zs b, I1, J1)
  refine GL.g (fun _ k => G.aload_n 772 2 rfl rfl k) ?_
  refine GL.cV (d := 26) (mc := 0) (ms := 0) (av := []) (rs := []) (b := 81) (r, I2, J2) hM 773 rfl co_L_181 rfl rfl rfl rfl rfl ⟨⟨Nat.le_of_ble_eq_true rfl, Nat.le_of_ble_eq_true rfl⟩, ⟨by show _ ≤ 399528; omega, by show _ ≤ 7902896; omega⟩, Nat.le_of_ble_eq_true rfl⟩ (cm_X12_hidden b I1 J1) (Or.inr rfl) ?_
  show GL L xs E cs 1329 [(0, .ref scx), (1, .ref 0), (2, .ref 81), (3, .ref 128), (4, .int x)] [.int r, .int r] (zs b, I2, J2)
  refine GL.same 1721 774 rfl (by decide) ?_
  exact k
set_option maxRecDepth 100000 in
theorem lc_35 {L : Nat} {xs : Nat → Int32} {E : Ex} {cs : Nat × Nat} (b : Bool) (x a1 a2 a3 a4 : Int32) (I : HI) (J : HJ) (hcs : cs.1 + 2 ≤ 399528 ∧ cs.2 + 59392 ≤ 7902896) (h1 : vp_in (x + (1 : Int32)) L) (h2 : vp_in (x + (2 : Int32)) L) (h3 : vp_in (x + (3 : Int32)) L) (h4 : vp_in (x + (4 : Int32)) L) (e1 : xs (x + (1 : Int32)).toNatClampNeg = a1) (e2 : xs (x + (2 : Int32)).toNatClampNeg = a2) (e3 : xs (x + (3 : Int32)).toNatClampNeg = a3) (e4 : xs (x + (4 : Int32)).toNatClampNeg = a4) (r : Int32) (I1 : HI) (J1 : HJ) (I2 : HI) (J2 : HJ) (hX : F_X11_alike a1 a2 I J = some (r, I1, J1)) (hM : F_X12_alike a1 a2 I1 J1 = some (r, I2, J2)) (k : GL L xs E cs 1721 (lvL x) [] (zs b, I2, J2)) : GL L xs E cs 1334 (lvL x) [] (zs b, I, J) := by
  refine GL.g (fun _ k => G.aload_n 777 1 rfl rfl k) ?_
  refine GL.g (fun _ k => G.aload_n 778 0 rfl rfl k) ?_
  refine GL.g (fun _ k => G.iload 779 4 rfl rfl k) ?_
  refine GL.g (fun _ k => G.iconst (1 : Int32) 780 rfl (by decide) k) ?_
  refine GL.g (fun _ k => G.iadd 781 rfl k) ?_
  refine GL.sld 782 rfl h1 e1 ?_
  refine GL.g (fun _ k => G.aload_n 783 0 rfl rfl k) ?_
  refine GL.g (fun _ k => G.iload 784 4 rfl rfl k) ?_
  refine GL.g (fun _ k => G.iconst (2 : Int32) 785 rfl (by decide) k) ?_
  refine GL.g (fun _ k => G.iadd 786 rfl k) ?_
  refine GL.sld 787 rfl h2 e2 ?_
  refine GL.cV (d := 27) (mc := 0) (ms := 0) (av := [.int a1, .int a2]) (rs := [.int a2, .int a1]) (b := 0) (r, I1, J1) hX 788 rfl co_L_182 rfl rfl rfl rfl rfl ⟨⟨Nat.le_of_ble_eq_true rfl, Nat.le_of_ble_eq_true rfl⟩, ⟨by show _ ≤ 399528; omega, by show _ ≤ 7902896; omega⟩, Nat.le_of_ble_eq_true rfl⟩ (cm_X11_alike b a1 a2 I J) (Or.inr rfl) ?_
  show GL L xs E cs 1350 [(0, .ref scx), (1, .ref 0), (2, .ref 81), (3, .ref 128), (4, .int x)] [.int r] (zs b, I1, J1)
  refine GL.g (fun _ k => G.aload_n 789 2 rfl rfl k) ?_
  refine GL.g (fun _ k => G.aload_n 790 0 rfl rfl k) ?_
  refine GL.g (fun _ k => G.iload 791 4 rfl rfl k) ?_
  refine GL.g (fun _ k => G.iconst (1 : Int32) 792 rfl (by decide) k) ?_
  refine GL.g (fun _ k => G.iadd 793 rfl k) ?_
  refine GL.sld 794 rfl h1 e1 ?_
  refine GL.g (fun _ k => G.aload_n 795 0 rfl rfl k) ?_
  refine GL.g (fun _ k => G.iload 796 4 rfl rfl k) ?_
  refine GL.g (fun _ k => G.iconst (2 : Int32) 797 rfl (by decide) k) ?_
  refine GL.g (fun _ k => G.iadd 798 rfl k) ?_
  refine GL.sld 799 rfl h2 e2 ?_
  refine GL.cV (d := 26) (mc := 0) (ms := 0) (av := [.int a1, .int a2]) (rs := [.int a2, .int a1]) (b := 81) (r, I2, J2) hM 800 rfl co_L_185 rfl rfl rfl rfl rfl ⟨⟨Nat.le_of_ble_eq_true rfl, Nat.le_of_ble_eq_true rfl⟩, ⟨by show _ ≤ 399528; omega, by show _ ≤ 7902896; omega⟩, Nat.le_of_ble_eq_true rfl⟩ (cm_X12_alike b a1 a2 I1 J1) (Or.inr rfl) ?_
  show GL L xs E cs 1366 [(0, .ref scx), (1, .ref 0), (2, .ref 81), (3, .ref 128), (4, .int x)] [.int r, .int r] (zs b, I2, J2)
  refine GL.same 1721 801 rfl (by decide) ?_
  exact k
set_option maxRecDepth 100000 in
theorem lc_36 {L : Nat} {xs : Nat → Int32} {E : Ex} {cs : Nat × Nat} (b : Bool) (x a1 a2 a3 a4 : Int32) (I : HI) (J : HJ) (hcs : cs.1 + 2 ≤ 399528 ∧ cs.2 + 59392 ≤ 7902896) (h1 : vp_in (x + (1 : Int32)) L) (h2 : vp_in (x + (2 : Int32)) L) (h3 : vp_in (x + (3 : Int32)) L) (h4 : vp_in (x + (4 : Int32)) L) (e1 : xs (x + (1 : Int32)).toNatClampNeg = a1) (e2 : xs (x + (2 : Int32)).toNatClampNeg = a2) (e3 : xs (x + (3 : Int32)).toNatClampNeg = a3) (e4 : xs (x + (4 : Int32)).toNatClampNeg = a4) (r : Int32) (I1 : HI) (J1 : HJ) (I2 : HI) (J2 : HJ) (hX : F_X11_seen a1 a2 (lgA a3 a4) I J = some (r, I1, J1)) (hM : F_X12_seen a1 a2 (lgA a3 a4) I1 J1 = some (r, I2, J2)) (k : GL L xs E cs 1721 (lvL x) [] (zs b, I2, J2)) : GL L xs E cs 1371 (lvL x) [] (zs b, I, J) := by
  refine GL.g (fun _ k => G.aload_n 804 1 rfl rfl k) ?_
  refine GL.g (fun _ k => G.aload_n 805 0 rfl rfl k) ?_
  refine GL.g (fun _ k => G.iload 806 4 rfl rfl k) ?_
  refine GL.g (fun _ k => G.iconst (1 : Int32) 807 rfl (by decide) k) ?_
  refine GL.g (fun _ k => G.iadd 808 rfl k) ?_
  refine GL.sld 809 rfl h1 e1 ?_
  refine GL.g (fun _ k => G.aload_n 810 0 rfl rfl k) ?_
  refine GL.g (fun _ k => G.iload 811 4 rfl rfl k) ?_
  refine GL.g (fun _ k => G.iconst (2 : Int32) 812 rfl (by decide) k) ?_
  refine GL.g (fun _ k => G.iadd 813 rfl k) ?_
  refine GL.sld 814 rfl h2 e2 ?_
  refine GL.g (fun _ k => G.aload_n 815 0 rfl rfl k) ?_
  refine GL.g (fun _ k => G.iload 816 4 rfl rfl k) ?_
  refine GL.g (fun _ k => G.iconst (3 : Int32) 817 rfl (by decide) k) ?_
  refine GL.g (fun _ k => G.iadd 818 rfl k) ?_
  refine GL.sld 819 rfl h3 e3 ?_
  refine GL.g (fun _ k => G.i2l 820 rfl k) ?_
  refine GL.g (fun _ k => G.bipush (32 : Int32) 821 rfl (by decide) k) ?_
  refine GL.g (fun _ k => G.lshl 822 rfl k) ?_
  refine GL.g (fun _ k => G.aload_n 823 0 rfl rfl k) ?_
  refine GL.g (fun _ k => G.iload 824 4 rfl rfl k) ?_
  refine GL.g (fun _ k => G.iconst (4 : Int32) 825 rfl (by decide) k) ?_
  refine GL.g (fun _ k => G.iadd 826 rfl k) ?_
  refine GL.sld 827 rfl h4 e4 ?_
  refine GL.g (fun _ k => G.i2l 828 rfl k) ?_
  refine GL.g (fun _ k => G.ldc2 (4294967295 : Int64) 829 rfl ko_L_97 k) ?_
  refine GL.g (fun _ k => G.land 830 rfl k) ?_
  refine GL.g (fun _ k => G.lor 831 rfl k) ?_
  refine GL.cV (d := 2) (mc := 0) (ms := 0) (av := [.int a1, .int a2, .long ((olshl (Int32.toInt64 a3) (32 : Int32)) ||| ((Int32.toInt64 a4) &&& (4294967295 : Int64)))]) (rs := [.long ((olshl (Int32.toInt64 a3) (32 : Int32)) ||| ((Int32.toInt64 a4) &&& (4294967295 : Int64))), .int a2, .int a1]) (b := 0) (r, I1, J1) hX 832 rfl co_L_186 rfl rfl rfl rfl rfl ⟨⟨Nat.le_of_ble_eq_true rfl, Nat.le_of_ble_eq_true rfl⟩, ⟨by show _ ≤ 399528; omega, by show _ ≤ 7902896; omega⟩, Nat.le_of_ble_eq_true rfl⟩ (cm_X11_seen b a1 a2 (lgA a3 a4) I J) (Or.inr rfl) ?_
  show GL L xs E cs 1409 [(0, .ref scx), (1, .ref 0), (2, .ref 81), (3, .ref 128), (4, .int x)] [.int r] (zs b, I1, J1)
  refine GL.g (fun _ k => G.aload_n 833 2 rfl rfl k) ?_
  refine GL.g (fun _ k => G.aload_n 834 0 rfl rfl k) ?_
  refine GL.g (fun _ k => G.iload 835 4 rfl rfl k) ?_
  refine GL.g (fun _ k => G.iconst (1 : Int32) 836 rfl (by decide) k) ?_
  refine GL.g (fun _ k => G.iadd 837 rfl k) ?_
  refine GL.sld 838 rfl h1 e1 ?_
  refine GL.g (fun _ k => G.aload_n 839 0 rfl rfl k) ?_
  refine GL.g (fun _ k => G.iload 840 4 rfl rfl k) ?_
  refine GL.g (fun _ k => G.iconst (2 : Int32) 841 rfl (by decide) k) ?_
  refine GL.g (fun _ k => G.iadd 842 rfl k) ?_
  refine GL.sld 843 rfl h2 e2 ?_
  refine GL.g (fun _ k => G.aload_n 844 0 rfl rfl k) ?_
  refine GL.g (fun _ k => G.iload 845 4 rfl rfl k) ?_
  refine GL.g (fun _ k => G.iconst (3 : Int32) 846 rfl (by decide) k) ?_
  refine GL.g (fun _ k => G.iadd 847 rfl k) ?_
  refine GL.sld 848 rfl h3 e3 ?_
  refine GL.g (fun _ k => G.i2l 849 rfl k) ?_
  refine GL.g (fun _ k => G.bipush (32 : Int32) 850 rfl (by decide) k) ?_
  refine GL.g (fun _ k => G.lshl 851 rfl k) ?_
  refine GL.g (fun _ k => G.aload_n 852 0 rfl rfl k) ?_
  refine GL.g (fun _ k => G.iload 853 4 rfl rfl k) ?_
  refine GL.g (fun _ k => G.iconst (4 : Int32) 854 rfl (by decide) k) ?_
  refine GL.g (fun _ k => G.iadd 855 rfl k) ?_
  refine GL.sld 856 rfl h4 e4 ?_
  refine GL.g (fun _ k => G.i2l 857 rfl k) ?_
  refine GL.g (fun _ k => G.ldc2 (4294967295 : Int64) 858 rfl ko_L_97 k) ?_
  refine GL.g (fun _ k => G.land 859 rfl k) ?_
  refine GL.g (fun _ k => G.lor 860 rfl k) ?_
  refine GL.cV (d := 3) (mc := 0) (ms := 0) (av := [.int a1, .int a2, .long ((olshl (Int32.toInt64 a3) (32 : Int32)) ||| ((Int32.toInt64 a4) &&& (4294967295 : Int64)))]) (rs := [.long ((olshl (Int32.toInt64 a3) (32 : Int32)) ||| ((Int32.toInt64 a4) &&& (4294967295 : Int64))), .int a2, .int a1]) (b := 81) (r, I2, J2) hM 861 rfl co_L_190 rfl rfl rfl rfl rfl ⟨⟨Nat.le_of_ble_eq_true rfl, Nat.le_of_ble_eq_true rfl⟩, ⟨by show _ ≤ 399528; omega, by show _ ≤ 7902896; omega⟩, Nat.le_of_ble_eq_true rfl⟩ (cm_X12_seen b a1 a2 (lgA a3 a4) I1 J1) (Or.inr rfl) ?_
  show GL L xs E cs 1447 [(0, .ref scx), (1, .ref 0), (2, .ref 81), (3, .ref 128), (4, .int x)] [.int r, .int r] (zs b, I2, J2)
  refine GL.same 1721 862 rfl (by decide) ?_
  exact k
set_option maxRecDepth 100000 in
theorem lc_37 {L : Nat} {xs : Nat → Int32} {E : Ex} {cs : Nat × Nat} (b : Bool) (x a1 a2 a3 a4 : Int32) (I : HI) (J : HJ) (hcs : cs.1 + 2 ≤ 399528 ∧ cs.2 + 59392 ≤ 7902896) (h1 : vp_in (x + (1 : Int32)) L) (h2 : vp_in (x + (2 : Int32)) L) (h3 : vp_in (x + (3 : Int32)) L) (h4 : vp_in (x + (4 : Int32)) L) (e1 : xs (x + (1 : Int32)).toNatClampNeg = a1) (e2 : xs (x + (2 : Int32)).toNatClampNeg = a2) (e3 : xs (x + (3 : Int32)).toNatClampNeg = a3) (e4 : xs (x + (4 : Int32)).toNatClampNeg = a4) (r : Int32) (I1 : HI) (J1 : HJ) (I2 : HI) (J2 : HJ) (hX : F_X11_forget I J = some (r, I1, J1)) (hM : F_X12_forget I1 J1 = some (r, I2, J2)) (k : GL L xs E cs 1721 (lvL x) [] (zs b, I2, J2)) : GL L xs E cs 1452 (lvL x) [] (zs b, I, J) := by
  refine GL.g (fun _ k => G.aload_n 865 1 rfl rfl k) ?_
  refine GL.cV (d := 1) (mc := 0) (ms := 0) (av := []) (rs := []) (b := 0) (r, I1, J1) hX 866 rfl co_L_191 rfl rfl rfl rfl rfl ⟨⟨Nat.le_of_ble_eq_true rfl, Nat.le_of_ble_eq_true rfl⟩, ⟨by show _ ≤ 399528; omega, by show _ ≤ 7902896; omega⟩, Nat.le_of_ble_eq_true rfl⟩ (cm_X11_forget b I J) (Or.inr rfl) ?_
  show GL L xs E cs 1456 [(0, .ref scx), (1, .ref 0), (2, .ref 81), (3, .ref 128), (4, .int x)] [.int r] (zs b, I1, J1)
  refine GL.g (fun _ k => G.aload_n 867 2 rfl rfl k) ?_
  refine GL.cV (d := 1) (mc := 0) (ms := 0) (av := []) (rs := []) (b := 81) (r, I2, J2) hM 868 rfl co_L_194 rfl rfl rfl rfl rfl ⟨⟨Nat.le_of_ble_eq_true rfl, Nat.le_of_ble_eq_true rfl⟩, ⟨by show _ ≤ 399528; omega, by show _ ≤ 7902896; omega⟩, Nat.le_of_ble_eq_true rfl⟩ (cm_X12_forget b I1 J1) (Or.inr rfl) ?_
  show GL L xs E cs 1460 [(0, .ref scx), (1, .ref 0), (2, .ref 81), (3, .ref 128), (4, .int x)] [.int r, .int r] (zs b, I2, J2)
  refine GL.same 1721 869 rfl (by decide) ?_
  exact k
set_option maxRecDepth 100000 in
theorem lc_38 {L : Nat} {xs : Nat → Int32} {E : Ex} {cs : Nat × Nat} (b : Bool) (x a1 a2 a3 a4 : Int32) (I : HI) (J : HJ) (hcs : cs.1 + 2 ≤ 399528 ∧ cs.2 + 59392 ≤ 7902896) (h1 : vp_in (x + (1 : Int32)) L) (h2 : vp_in (x + (2 : Int32)) L) (h3 : vp_in (x + (3 : Int32)) L) (h4 : vp_in (x + (4 : Int32)) L) (e1 : xs (x + (1 : Int32)).toNatClampNeg = a1) (e2 : xs (x + (2 : Int32)).toNatClampNeg = a2) (e3 : xs (x + (3 : Int32)).toNatClampNeg = a3) (e4 : xs (x + (4 : Int32)).toNatClampNeg = a4) (r : Int32) (I1 : HI) (J1 : HJ) (I2 : HI) (J2 : HJ) (hX : F_X11_which I J = some (r, I1, J1)) (hM : F_X12_which I1 J1 = some (r, I2, J2)) (k : GL L xs E cs 1721 (lvL x) [] (zs b, I2, J2)) : GL L xs E cs 1465 (lvL x) [] (zs b, I, J) := by
  refine GL.g (fun _ k => G.aload_n 872 1 rfl rfl k) ?_
  refine GL.cV (d := 27) (mc := 0) (ms := 0) (av := []) (rs := []) (b := 0) (r, I1, J1) hX 873 rfl co_L_195 rfl rfl rfl rfl rfl ⟨⟨Nat.le_of_ble_eq_true rfl, Nat.le_of_ble_eq_true rfl⟩, ⟨by show _ ≤ 399528; omega, by show _ ≤ 7902896; omega⟩, Nat.le_of_ble_eq_true rfl⟩ (cm_X11_which b I J) (Or.inr rfl) ?_
  show GL L xs E cs 1469 [(0, .ref scx), (1, .ref 0), (2, .ref 81), (3, .ref 128), (4, .int x)] [.int r] (zs b, I1, J1)
  refine GL.g (fun _ k => G.aload_n 874 2 rfl rfl k) ?_
  refine GL.cV (d := 27) (mc := 0) (ms := 0) (av := []) (rs := []) (b := 81) (r, I2, J2) hM 875 rfl co_L_198 rfl rfl rfl rfl rfl ⟨⟨Nat.le_of_ble_eq_true rfl, Nat.le_of_ble_eq_true rfl⟩, ⟨by show _ ≤ 399528; omega, by show _ ≤ 7902896; omega⟩, Nat.le_of_ble_eq_true rfl⟩ (cm_X12_which b I1 J1) (Or.inr rfl) ?_
  show GL L xs E cs 1473 [(0, .ref scx), (1, .ref 0), (2, .ref 81), (3, .ref 128), (4, .int x)] [.int r, .int r] (zs b, I2, J2)
  refine GL.same 1721 876 rfl (by decide) ?_
  exact k
set_option maxRecDepth 100000 in
theorem lc_39 {L : Nat} {xs : Nat → Int32} {E : Ex} {cs : Nat × Nat} (b : Bool) (x a1 a2 a3 a4 : Int32) (I : HI) (J : HJ) (hcs : cs.1 + 2 ≤ 399528 ∧ cs.2 + 59392 ≤ 7902896) (h1 : vp_in (x + (1 : Int32)) L) (h2 : vp_in (x + (2 : Int32)) L) (h3 : vp_in (x + (3 : Int32)) L) (h4 : vp_in (x + (4 : Int32)) L) (e1 : xs (x + (1 : Int32)).toNatClampNeg = a1) (e2 : xs (x + (2 : Int32)).toNatClampNeg = a2) (e3 : xs (x + (3 : Int32)).toNatClampNeg = a3) (e4 : xs (x + (4 : Int32)).toNatClampNeg = a4) (r : Int32) (I1 : HI) (J1 : HJ) (I2 : HI) (J2 : HJ) (hX : F_X11_judge a1 I J = some (r, I1, J1)) (hM : F_X12_judge a1 I1 J1 = some (r, I2, J2)) (k : GL L xs E cs 1721 (lvL x) [] (zs b, I2, J2)) : GL L xs E cs 1478 (lvL x) [] (zs b, I, J) := by
  refine GL.g (fun _ k => G.aload_n 879 1 rfl rfl k) ?_
  refine GL.g (fun _ k => G.aload_n 880 0 rfl rfl k) ?_
  refine GL.g (fun _ k => G.iload 881 4 rfl rfl k) ?_
  refine GL.g (fun _ k => G.iconst (1 : Int32) 882 rfl (by decide) k) ?_
  refine GL.g (fun _ k => G.iadd 883 rfl k) ?_
  refine GL.sld 884 rfl h1 e1 ?_
  refine GL.cV (d := 26) (mc := 0) (ms := 0) (av := [.int a1]) (rs := [.int a1]) (b := 0) (r, I1, J1) hX 885 rfl co_L_199 rfl rfl rfl rfl rfl ⟨⟨Nat.le_of_ble_eq_true rfl, Nat.le_of_ble_eq_true rfl⟩, ⟨by show _ ≤ 399528; omega, by show _ ≤ 7902896; omega⟩, Nat.le_of_ble_eq_true rfl⟩ (cm_X11_judge b a1 I J) (Or.inr rfl) ?_
  show GL L xs E cs 1488 [(0, .ref scx), (1, .ref 0), (2, .ref 81), (3, .ref 128), (4, .int x)] [.int r] (zs b, I1, J1)
  refine GL.g (fun _ k => G.aload_n 886 2 rfl rfl k) ?_
  refine GL.g (fun _ k => G.aload_n 887 0 rfl rfl k) ?_
  refine GL.g (fun _ k => G.iload 888 4 rfl rfl k) ?_
  refine GL.g (fun _ k => G.iconst (1 : Int32) 889 rfl (by decide) k) ?_
  refine GL.g (fun _ k => G.iadd 890 rfl k) ?_
  refine GL.sld 891 rfl h1 e1 ?_
  refine GL.cV (d := 26) (mc := 0) (ms := 0) (av := [.int a1]) (rs := [.int a1]) (b := 81) (r, I2, J2) hM 892 rfl co_L_202 rfl rfl rfl rfl rfl ⟨⟨Nat.le_of_ble_eq_true rfl, Nat.le_of_ble_eq_true rfl⟩, ⟨by show _ ≤ 399528; omega, by show _ ≤ 7902896; omega⟩, Nat.le_of_ble_eq_true rfl⟩ (cm_X12_judge b a1 I1 J1) (Or.inr rfl) ?_
  show GL L xs E cs 1498 [(0, .ref scx), (1, .ref 0), (2, .ref 81), (3, .ref 128), (4, .int x)] [.int r, .int r] (zs b, I2, J2)
  refine GL.same 1721 893 rfl (by decide) ?_
  exact k
set_option maxRecDepth 100000 in
theorem lc_40 {L : Nat} {xs : Nat → Int32} {E : Ex} {cs : Nat × Nat} (b : Bool) (x a1 a2 a3 a4 : Int32) (I : HI) (J : HJ) (hcs : cs.1 + 2 ≤ 399528 ∧ cs.2 + 59392 ≤ 7902896) (h1 : vp_in (x + (1 : Int32)) L) (h2 : vp_in (x + (2 : Int32)) L) (h3 : vp_in (x + (3 : Int32)) L) (h4 : vp_in (x + (4 : Int32)) L) (e1 : xs (x + (1 : Int32)).toNatClampNeg = a1) (e2 : xs (x + (2 : Int32)).toNatClampNeg = a2) (e3 : xs (x + (3 : Int32)).toNatClampNeg = a3) (e4 : xs (x + (4 : Int32)).toNatClampNeg = a4) (r : Int32) (I1 : HI) (J1 : HJ) (I2 : HI) (J2 : HJ) (hX : F_X11_next I J = some (r, I1, J1)) (hM : F_X12_next I1 J1 = some (r, I2, J2)) (k : GL L xs E cs 1721 (lvL x) [] (zs b, I2, J2)) : GL L xs E cs 1503 (lvL x) [] (zs b, I, J) := by
  refine GL.g (fun _ k => G.aload_n 896 1 rfl rfl k) ?_
  refine GL.cV (d := 27) (mc := 0) (ms := 0) (av := []) (rs := []) (b := 0) (r, I1, J1) hX 897 rfl co_L_203 rfl rfl rfl rfl rfl ⟨⟨Nat.le_of_ble_eq_true rfl, Nat.le_of_ble_eq_true rfl⟩, ⟨by show _ ≤ 399528; omega, by show _ ≤ 7902896; omega⟩, Nat.le_of_ble_eq_true rfl⟩ (cm_X11_next b I J) (Or.inr rfl) ?_
  show GL L xs E cs 1507 [(0, .ref scx), (1, .ref 0), (2, .ref 81), (3, .ref 128), (4, .int x)] [.int r] (zs b, I1, J1)
  refine GL.g (fun _ k => G.aload_n 898 2 rfl rfl k) ?_
  refine GL.cV (d := 27) (mc := 0) (ms := 0) (av := []) (rs := []) (b := 81) (r, I2, J2) hM 899 rfl co_L_206 rfl rfl rfl rfl rfl ⟨⟨Nat.le_of_ble_eq_true rfl, Nat.le_of_ble_eq_true rfl⟩, ⟨by show _ ≤ 399528; omega, by show _ ≤ 7902896; omega⟩, Nat.le_of_ble_eq_true rfl⟩ (cm_X12_next b I1 J1) (Or.inr rfl) ?_
  show GL L xs E cs 1511 [(0, .ref scx), (1, .ref 0), (2, .ref 81), (3, .ref 128), (4, .int x)] [.int r, .int r] (zs b, I2, J2)
  refine GL.same 1721 900 rfl (by decide) ?_
  exact k
set_option maxRecDepth 100000 in
theorem lc_41 {L : Nat} {xs : Nat → Int32} {E : Ex} {cs : Nat × Nat} (b : Bool) (x a1 a2 a3 a4 : Int32) (I : HI) (J : HJ) (hcs : cs.1 + 2 ≤ 399528 ∧ cs.2 + 59392 ≤ 7902896) (h1 : vp_in (x + (1 : Int32)) L) (h2 : vp_in (x + (2 : Int32)) L) (h3 : vp_in (x + (3 : Int32)) L) (h4 : vp_in (x + (4 : Int32)) L) (e1 : xs (x + (1 : Int32)).toNatClampNeg = a1) (e2 : xs (x + (2 : Int32)).toNatClampNeg = a2) (e3 : xs (x + (3 : Int32)).toNatClampNeg = a3) (e4 : xs (x + (4 : Int32)).toNatClampNeg = a4) (r : Int32) (I1 : HI) (J1 : HJ) (I2 : HI) (J2 : HJ) (hX : F_X11_test a1 a2 I J = some (r, I1, J1)) (hM : F_X12_test a1 a2 I1 J1 = some (r, I2, J2)) (k : GL L xs E cs 1721 (lvL x) [] (zs b, I2, J2)) : GL L xs E cs 1516 (lvL x) [] (zs b, I, J) := by
  refine GL.g (fun _ k => G.aload_n 903 1 rfl rfl k) ?_
  refine GL.g (fun _ k => G.aload_n 904 0 rfl rfl k) ?_
  refine GL.g (fun _ k => G.iload 905 4 rfl rfl k) ?_
  refine GL.g (fun _ k => G.iconst (1 : Int32) 906 rfl (by decide) k) ?_
  refine GL.g (fun _ k => G.iadd 907 rfl k) ?_
  refine GL.sld 908 rfl h1 e1 ?_
  refine GL.g (fun _ k => G.aload_n 909 0 rfl rfl k) ?_
  refine GL.g (fun _ k => G.iload 910 4 rfl rfl k) ?_
  refine GL.g (fun _ k => G.iconst (2 : Int32) 911 rfl (by decide) k) ?_
  refine GL.g (fun _ k => G.iadd 912 rfl k) ?_
  refine GL.sld 913 rfl h2 e2 ?_
  refine GL.cV (d := 2) (mc := 0) (ms := 0) (av := [.int a1, .int a2]) (rs := [.int a2, .int a1]) (b := 0) (r, I1, J1) hX 914 rfl co_L_207 rfl rfl rfl rfl rfl ⟨⟨Nat.le_of_ble_eq_true rfl, Nat.le_of_ble_eq_true rfl⟩, ⟨by show _ ≤ 399528; omega, by show _ ≤ 7902896; omega⟩, Nat.le_of_ble_eq_true rfl⟩ (cm_X11_test b a1 a2 I J) (Or.inr rfl) ?_
  show GL L xs E cs 1532 [(0, .ref scx), (1, .ref 0), (2, .ref 81), (3, .ref 128), (4, .int x)] [.int r] (zs b, I1, J1)
  refine GL.g (fun _ k => G.aload_n 915 2 rfl rfl k) ?_
  refine GL.g (fun _ k => G.aload_n 916 0 rfl rfl k) ?_
  refine GL.g (fun _ k => G.iload 917 4 rfl rfl k) ?_
  refine GL.g (fun _ k => G.iconst (1 : Int32) 918 rfl (by decide) k) ?_
  refine GL.g (fun _ k => G.iadd 919 rfl k) ?_
  refine GL.sld 920 rfl h1 e1 ?_
  refine GL.g (fun _ k => G.aload_n 921 0 rfl rfl k) ?_
  refine GL.g (fun _ k => G.iload 922 4 rfl rfl k) ?_
  refine GL.g (fun _ k => G.iconst (2 : Int32) 923 rfl (by decide) k) ?_
  refine GL.g (fun _ k => G.iadd 924 rfl k) ?_
  refine GL.sld 925 rfl h2 e2 ?_
  refine GL.cV (d := 3) (mc := 0) (ms := 0) (av := [.int a1, .int a2]) (rs := [.int a2, .int a1]) (b := 81) (r, I2, J2) hM 926 rfl co_L_210 rfl rfl rfl rfl rfl ⟨⟨Nat.le_of_ble_eq_true rfl, Nat.le_of_ble_eq_true rfl⟩, ⟨by show _ ≤ 399528; omega, by show _ ≤ 7902896; omega⟩, Nat.le_of_ble_eq_true rfl⟩ (cm_X12_test b a1 a2 I1 J1) (Or.inr rfl) ?_
  show GL L xs E cs 1548 [(0, .ref scx), (1, .ref 0), (2, .ref 81), (3, .ref 128), (4, .int x)] [.int r, .int r] (zs b, I2, J2)
  refine GL.same 1721 927 rfl (by decide) ?_
  exact k
set_option maxRecDepth 100000 in
theorem lc_42t {L : Nat} {xs : Nat → Int32} {E : Ex} {cs : Nat × Nat} (x a1 a2 a3 a4 : Int32) (I : HI) (J : HJ) (hcs : cs.1 + 2 ≤ 399528 ∧ cs.2 + 59392 ≤ 7902896) (h1 : vp_in (x + (1 : Int32)) L) (h2 : vp_in (x + (2 : Int32)) L) (h3 : vp_in (x + (3 : Int32)) L) (h4 : vp_in (x + (4 : Int32)) L) (e1 : xs (x + (1 : Int32)).toNatClampNeg = a1) (e2 : xs (x + (2 : Int32)).toNatClampNeg = a2) (e3 : xs (x + (3 : Int32)).toNatClampNeg = a3) (e4 : xs (x + (4 : Int32)).toNatClampNeg = a4) (r : Int32) (I1 : HI) (J1 : HJ) (I2 : HI) (J2 : HJ) (hX : F_X11_tree I J = some (r, I1, J1)) (hM : F_X12_tree I1 J1 = some (r, I2, J2)) (k : GL L xs E cs 1721 (lvL x) [] (zs true, I2, J2)) : GL L xs E cs 1553 (lvL x) [] (zs true, I, J) := by
  refine GL.g (fun _ k => G.aload_n 930 1 rfl rfl k) ?_
  refine GL.cV (d := 27) (mc := 0) (ms := 0) (av := []) (rs := []) (b := 0) (r, I1, J1) hX 931 rfl co_L_211 rfl rfl rfl rfl rfl ⟨⟨Nat.le_of_ble_eq_true rfl, Nat.le_of_ble_eq_true rfl⟩, ⟨by show _ ≤ 399528; omega, by show _ ≤ 7902896; omega⟩, Nat.le_of_ble_eq_true rfl⟩ (cm_X11_tree I J) (Or.inr rfl) ?_
  show GL L xs E cs 1557 [(0, .ref scx), (1, .ref 0), (2, .ref 81), (3, .ref 128), (4, .int x)] [.int r] (zs true, I1, J1)
  refine GL.g (fun _ k => G.aload_n 932 2 rfl rfl k) ?_
  refine GL.cV (d := 46) (mc := 0) (ms := 0) (av := []) (rs := []) (b := 81) (r, I2, J2) hM 933 rfl co_L_214 rfl rfl rfl rfl rfl ⟨⟨Nat.le_of_ble_eq_true rfl, Nat.le_of_ble_eq_true rfl⟩, ⟨by show _ ≤ 399528; omega, by show _ ≤ 7902896; omega⟩, Nat.le_of_ble_eq_true rfl⟩ (cm_X12_tree true I1 J1) (Or.inr rfl) ?_
  show GL L xs E cs 1561 [(0, .ref scx), (1, .ref 0), (2, .ref 81), (3, .ref 128), (4, .int x)] [.int r, .int r] (zs true, I2, J2)
  refine GL.same 1721 934 rfl (by decide) ?_
  exact k
set_option maxRecDepth 100000 in
theorem lc_42f {L : Nat} {xs : Nat → Int32} {E : Ex} {cs : Nat × Nat} (b' : Bool) (x a1 a2 a3 a4 : Int32) (I : HI) (J : HJ) (hcs : cs.1 + 2 ≤ 399528 ∧ cs.2 + 59392 ≤ 7902896) (h1 : vp_in (x + (1 : Int32)) L) (h2 : vp_in (x + (2 : Int32)) L) (h3 : vp_in (x + (3 : Int32)) L) (h4 : vp_in (x + (4 : Int32)) L) (e1 : xs (x + (1 : Int32)).toNatClampNeg = a1) (e2 : xs (x + (2 : Int32)).toNatClampNeg = a2) (e3 : xs (x + (3 : Int32)).toNatClampNeg = a3) (e4 : xs (x + (4 : Int32)).toNatClampNeg = a4) (r : Int32) (I1 : HI) (J1 : HJ) (I2 : HI) (J2 : HJ) (hX : F_X11_treef I J = some (b', r, I1, J1)) (hM : F_X12_tree I1 J1 = some (r, I2, J2)) (k : GL L xs E (cs.1 + 2, cs.2 + 59392) 1721 (lvL x) [] (zs b', I2, J2)) : GL L xs E cs 1553 (lvL x) [] (zs false, I, J) := by
  refine GL.g (fun _ k => G.aload_n 930 1 rfl rfl k) ?_
  refine GL.cV (d := 27) (mc := 2) (ms := 59392) (av := []) (rs := []) (b := 0) (b', r, I1, J1) hX 931 rfl co_L_211 rfl rfl rfl rfl rfl ⟨⟨Nat.le_of_ble_eq_true rfl, Nat.le_of_ble_eq_true rfl⟩, ⟨by show _ ≤ 399528; omega, by show _ ≤ 7902896; omega⟩, Nat.le_of_ble_eq_true rfl⟩ (cm_X11_treef I J) (Or.inl rfl) ?_
  show GL L xs E (cs.1 + 2, cs.2 + 59392) 1557 [(0, .ref scx), (1, .ref 0), (2, .ref 81), (3, .ref 128), (4, .int x)] [.int r] (zs b', I1, J1)
  refine GL.g (fun _ k => G.aload_n 932 2 rfl rfl k) ?_
  refine GL.cV (d := 46) (mc := 0) (ms := 0) (av := []) (rs := []) (b := 81) (r, I2, J2) hM 933 rfl co_L_214 rfl rfl rfl rfl rfl ⟨⟨Nat.le_of_ble_eq_true rfl, Nat.le_of_ble_eq_true rfl⟩, ⟨by show _ ≤ 399528; omega, by show _ ≤ 7902896; omega⟩, Nat.le_of_ble_eq_true rfl⟩ (cm_X12_tree b' I1 J1) (Or.inr rfl) ?_
  show GL L xs E (cs.1 + 2, cs.2 + 59392) 1561 [(0, .ref scx), (1, .ref 0), (2, .ref 81), (3, .ref 128), (4, .int x)] [.int r, .int r] (zs b', I2, J2)
  refine GL.same 1721 934 rfl (by decide) ?_
  exact k
set_option maxRecDepth 100000 in
theorem lc_43t {L : Nat} {xs : Nat → Int32} {E : Ex} {cs : Nat × Nat} (x a1 a2 a3 a4 : Int32) (I : HI) (J : HJ) (hcs : cs.1 + 2 ≤ 399528 ∧ cs.2 + 59392 ≤ 7902896) (h1 : vp_in (x + (1 : Int32)) L) (h2 : vp_in (x + (2 : Int32)) L) (h3 : vp_in (x + (3 : Int32)) L) (h4 : vp_in (x + (4 : Int32)) L) (e1 : xs (x + (1 : Int32)).toNatClampNeg = a1) (e2 : xs (x + (2 : Int32)).toNatClampNeg = a2) (e3 : xs (x + (3 : Int32)).toNatClampNeg = a3) (e4 : xs (x + (4 : Int32)).toNatClampNeg = a4) (r : Int32) (I1 : HI) (J1 : HJ) (I2 : HI) (J2 : HJ) (hX : F_X11_path a1 I J = some (r, I1, J1)) (hM : F_X12_path a1 I1 J1 = some (r, I2, J2)) (k : GL L xs E cs 1721 (lvL x) [] (zs true, I2, J2)) : GL L xs E cs 1566 (lvL x) [] (zs true, I, J) := by
  refine GL.g (fun _ k => G.aload_n 937 1 rfl rfl k) ?_
  refine GL.g (fun _ k => G.aload_n 938 0 rfl rfl k) ?_
  refine GL.g (fun _ k => G.iload 939 4 rfl rfl k) ?_
  refine GL.g (fun _ k => G.iconst (1 : Int32) 940 rfl (by decide) k) ?_
  refine GL.g (fun _ k => G.iadd 941 rfl k) ?_
  refine GL.sld 942 rfl h1 e1 ?_
  refine GL.cV (d := 27) (mc := 0) (ms := 0) (av := [.int a1]) (rs := [.int a1]) (b := 0) (r, I1, J1) hX 943 rfl co_L_215 rfl rfl rfl rfl rfl ⟨⟨Nat.le_of_ble_eq_true rfl, Nat.le_of_ble_eq_true rfl⟩, ⟨by show _ ≤ 399528; omega, by show _ ≤ 7902896; omega⟩, Nat.le_of_ble_eq_true rfl⟩ (cm_X11_path a1 I J) (Or.inr rfl) ?_
  show GL L xs E cs 1576 [(0, .ref scx), (1, .ref 0), (2, .ref 81), (3, .ref 128), (4, .int x)] [.int r] (zs true, I1, J1)
  refine GL.g (fun _ k => G.aload_n 944 2 rfl rfl k) ?_
  refine GL.g (fun _ k => G.aload_n 945 0 rfl rfl k) ?_
  refine GL.g (fun _ k => G.iload 946 4 rfl rfl k) ?_
  refine GL.g (fun _ k => G.iconst (1 : Int32) 947 rfl (by decide) k) ?_
  refine GL.g (fun _ k => G.iadd 948 rfl k) ?_
  refine GL.sld 949 rfl h1 e1 ?_
  refine GL.cV (d := 46) (mc := 0) (ms := 0) (av := [.int a1]) (rs := [.int a1]) (b := 81) (r, I2, J2) hM 950 rfl co_L_218 rfl rfl rfl rfl rfl ⟨⟨Nat.le_of_ble_eq_true rfl, Nat.le_of_ble_eq_true rfl⟩, ⟨by show _ ≤ 399528; omega, by show _ ≤ 7902896; omega⟩, Nat.le_of_ble_eq_true rfl⟩ (cm_X12_path true a1 I1 J1) (Or.inr rfl) ?_
  show GL L xs E cs 1586 [(0, .ref scx), (1, .ref 0), (2, .ref 81), (3, .ref 128), (4, .int x)] [.int r, .int r] (zs true, I2, J2)
  refine GL.same 1721 951 rfl (by decide) ?_
  exact k
set_option maxRecDepth 100000 in
theorem lc_43f {L : Nat} {xs : Nat → Int32} {E : Ex} {cs : Nat × Nat} (b' : Bool) (x a1 a2 a3 a4 : Int32) (I : HI) (J : HJ) (hcs : cs.1 + 2 ≤ 399528 ∧ cs.2 + 59392 ≤ 7902896) (h1 : vp_in (x + (1 : Int32)) L) (h2 : vp_in (x + (2 : Int32)) L) (h3 : vp_in (x + (3 : Int32)) L) (h4 : vp_in (x + (4 : Int32)) L) (e1 : xs (x + (1 : Int32)).toNatClampNeg = a1) (e2 : xs (x + (2 : Int32)).toNatClampNeg = a2) (e3 : xs (x + (3 : Int32)).toNatClampNeg = a3) (e4 : xs (x + (4 : Int32)).toNatClampNeg = a4) (r : Int32) (I1 : HI) (J1 : HJ) (I2 : HI) (J2 : HJ) (hX : F_X11_pathf a1 I J = some (b', r, I1, J1)) (hM : F_X12_path a1 I1 J1 = some (r, I2, J2)) (k : GL L xs E (cs.1 + 2, cs.2 + 59392) 1721 (lvL x) [] (zs b', I2, J2)) : GL L xs E cs 1566 (lvL x) [] (zs false, I, J) := by
  refine GL.g (fun _ k => G.aload_n 937 1 rfl rfl k) ?_
  refine GL.g (fun _ k => G.aload_n 938 0 rfl rfl k) ?_
  refine GL.g (fun _ k => G.iload 939 4 rfl rfl k) ?_
  refine GL.g (fun _ k => G.iconst (1 : Int32) 940 rfl (by decide) k) ?_
  refine GL.g (fun _ k => G.iadd 941 rfl k) ?_
  refine GL.sld 942 rfl h1 e1 ?_
  refine GL.cV (d := 27) (mc := 2) (ms := 59392) (av := [.int a1]) (rs := [.int a1]) (b := 0) (b', r, I1, J1) hX 943 rfl co_L_215 rfl rfl rfl rfl rfl ⟨⟨Nat.le_of_ble_eq_true rfl, Nat.le_of_ble_eq_true rfl⟩, ⟨by show _ ≤ 399528; omega, by show _ ≤ 7902896; omega⟩, Nat.le_of_ble_eq_true rfl⟩ (cm_X11_pathf a1 I J) (Or.inl rfl) ?_
  show GL L xs E (cs.1 + 2, cs.2 + 59392) 1576 [(0, .ref scx), (1, .ref 0), (2, .ref 81), (3, .ref 128), (4, .int x)] [.int r] (zs b', I1, J1)
  refine GL.g (fun _ k => G.aload_n 944 2 rfl rfl k) ?_
  refine GL.g (fun _ k => G.aload_n 945 0 rfl rfl k) ?_
  refine GL.g (fun _ k => G.iload 946 4 rfl rfl k) ?_
  refine GL.g (fun _ k => G.iconst (1 : Int32) 947 rfl (by decide) k) ?_
  refine GL.g (fun _ k => G.iadd 948 rfl k) ?_
  refine GL.sld 949 rfl h1 e1 ?_
  refine GL.cV (d := 46) (mc := 0) (ms := 0) (av := [.int a1]) (rs := [.int a1]) (b := 81) (r, I2, J2) hM 950 rfl co_L_218 rfl rfl rfl rfl rfl ⟨⟨Nat.le_of_ble_eq_true rfl, Nat.le_of_ble_eq_true rfl⟩, ⟨by show _ ≤ 399528; omega, by show _ ≤ 7902896; omega⟩, Nat.le_of_ble_eq_true rfl⟩ (cm_X12_path b' a1 I1 J1) (Or.inr rfl) ?_
  show GL L xs E (cs.1 + 2, cs.2 + 59392) 1586 [(0, .ref scx), (1, .ref 0), (2, .ref 81), (3, .ref 128), (4, .int x)] [.int r, .int r] (zs b', I2, J2)
  refine GL.same 1721 951 rfl (by decide) ?_
  exact k
set_option maxRecDepth 100000 in
theorem lc_44 {L : Nat} {xs : Nat → Int32} {E : Ex} {cs : Nat × Nat} (b : Bool) (x a1 a2 a3 a4 : Int32) (I : HI) (J : HJ) (hcs : cs.1 + 2 ≤ 399528 ∧ cs.2 + 59392 ≤ 7902896) (h1 : vp_in (x + (1 : Int32)) L) (h2 : vp_in (x + (2 : Int32)) L) (h3 : vp_in (x + (3 : Int32)) L) (h4 : vp_in (x + (4 : Int32)) L) (e1 : xs (x + (1 : Int32)).toNatClampNeg = a1) (e2 : xs (x + (2 : Int32)).toNatClampNeg = a2) (e3 : xs (x + (3 : Int32)).toNatClampNeg = a3) (e4 : xs (x + (4 : Int32)).toNatClampNeg = a4) (r : Int32) (I1 : HI) (J1 : HJ) (I2 : HI) (J2 : HJ) (hX : F_X11_keep a1 I J = some (r, I1, J1)) (hM : F_X12_keep a1 I1 J1 = some (r, I2, J2)) (k : GL L xs E cs 1721 (lvL x) [] (zs b, I2, J2)) : GL L xs E cs 1591 (lvL x) [] (zs b, I, J) := by
  refine GL.g (fun _ k => G.aload_n 954 1 rfl rfl k) ?_
  refine GL.g (fun _ k => G.aload_n 955 0 rfl rfl k) ?_
  refine GL.g (fun _ k => G.iload 956 4 rfl rfl k) ?_
  refine GL.g (fun _ k => G.iconst (1 : Int32) 957 rfl (by decide) k) ?_
  refine GL.g (fun _ k => G.iadd 958 rfl k) ?_
  refine GL.sld 959 rfl h1 e1 ?_
  refine GL.cV (d := 3) (mc := 0) (ms := 0) (av := [.int a1]) (rs := [.int a1]) (b := 0) (r, I1, J1) hX 960 rfl co_L_219 rfl rfl rfl rfl rfl ⟨⟨Nat.le_of_ble_eq_true rfl, Nat.le_of_ble_eq_true rfl⟩, ⟨by show _ ≤ 399528; omega, by show _ ≤ 7902896; omega⟩, Nat.le_of_ble_eq_true rfl⟩ (cm_X11_keep b a1 I J) (Or.inr rfl) ?_
  show GL L xs E cs 1601 [(0, .ref scx), (1, .ref 0), (2, .ref 81), (3, .ref 128), (4, .int x)] [.int r] (zs b, I1, J1)
  refine GL.g (fun _ k => G.aload_n 961 2 rfl rfl k) ?_
  refine GL.g (fun _ k => G.aload_n 962 0 rfl rfl k) ?_
  refine GL.g (fun _ k => G.iload 963 4 rfl rfl k) ?_
  refine GL.g (fun _ k => G.iconst (1 : Int32) 964 rfl (by decide) k) ?_
  refine GL.g (fun _ k => G.iadd 965 rfl k) ?_
  refine GL.sld 966 rfl h1 e1 ?_
  refine GL.cV (d := 2) (mc := 0) (ms := 0) (av := [.int a1]) (rs := [.int a1]) (b := 81) (r, I2, J2) hM 967 rfl co_L_222 rfl rfl rfl rfl rfl ⟨⟨Nat.le_of_ble_eq_true rfl, Nat.le_of_ble_eq_true rfl⟩, ⟨by show _ ≤ 399528; omega, by show _ ≤ 7902896; omega⟩, Nat.le_of_ble_eq_true rfl⟩ (cm_X12_keep b a1 I1 J1) (Or.inr rfl) ?_
  show GL L xs E cs 1611 [(0, .ref scx), (1, .ref 0), (2, .ref 81), (3, .ref 128), (4, .int x)] [.int r, .int r] (zs b, I2, J2)
  refine GL.same 1721 968 rfl (by decide) ?_
  exact k
set_option maxRecDepth 100000 in
theorem lc_45 {L : Nat} {xs : Nat → Int32} {E : Ex} {cs : Nat × Nat} (b : Bool) (x a1 a2 a3 a4 : Int32) (I : HI) (J : HJ) (hcs : cs.1 + 2 ≤ 399528 ∧ cs.2 + 59392 ≤ 7902896) (h1 : vp_in (x + (1 : Int32)) L) (h2 : vp_in (x + (2 : Int32)) L) (h3 : vp_in (x + (3 : Int32)) L) (h4 : vp_in (x + (4 : Int32)) L) (e1 : xs (x + (1 : Int32)).toNatClampNeg = a1) (e2 : xs (x + (2 : Int32)).toNatClampNeg = a2) (e3 : xs (x + (3 : Int32)).toNatClampNeg = a3) (e4 : xs (x + (4 : Int32)).toNatClampNeg = a4) (r : Int32) (I1 : HI) (J1 : HJ) (I2 : HI) (J2 : HJ) (hX : F_X11_again a1 I J = some (r, I1, J1)) (hM : F_X12_again a1 I1 J1 = some (r, I2, J2)) (k : GL L xs E cs 1721 (lvL x) [] (zs b, I2, J2)) : GL L xs E cs 1616 (lvL x) [] (zs b, I, J) := by
  refine GL.g (fun _ k => G.aload_n 971 1 rfl rfl k) ?_
  refine GL.g (fun _ k => G.aload_n 972 0 rfl rfl k) ?_
  refine GL.g (fun _ k => G.iload 973 4 rfl rfl k) ?_
  refine GL.g (fun _ k => G.iconst (1 : Int32) 974 rfl (by decide) k) ?_
  refine GL.g (fun _ k => G.iadd 975 rfl k) ?_
  refine GL.sld 976 rfl h1 e1 ?_
  refine GL.cV (d := 4) (mc := 0) (ms := 0) (av := [.int a1]) (rs := [.int a1]) (b := 0) (r, I1, J1) hX 977 rfl co_L_223 rfl rfl rfl rfl rfl ⟨⟨Nat.le_of_ble_eq_true rfl, Nat.le_of_ble_eq_true rfl⟩, ⟨by show _ ≤ 399528; omega, by show _ ≤ 7902896; omega⟩, Nat.le_of_ble_eq_true rfl⟩ (cm_X11_again b a1 I J) (Or.inr rfl) ?_
  show GL L xs E cs 1626 [(0, .ref scx), (1, .ref 0), (2, .ref 81), (3, .ref 128), (4, .int x)] [.int r] (zs b, I1, J1)
  refine GL.g (fun _ k => G.aload_n 978 2 rfl rfl k) ?_
  refine GL.g (fun _ k => G.aload_n 979 0 rfl rfl k) ?_
  refine GL.g (fun _ k => G.iload 980 4 rfl rfl k) ?_
  refine GL.g (fun _ k => G.iconst (1 : Int32) 981 rfl (by decide) k) ?_
  refine GL.g (fun _ k => G.iadd 982 rfl k) ?_
  refine GL.sld 983 rfl h1 e1 ?_
  refine GL.cV (d := 2) (mc := 0) (ms := 0) (av := [.int a1]) (rs := [.int a1]) (b := 81) (r, I2, J2) hM 984 rfl co_L_226 rfl rfl rfl rfl rfl ⟨⟨Nat.le_of_ble_eq_true rfl, Nat.le_of_ble_eq_true rfl⟩, ⟨by show _ ≤ 399528; omega, by show _ ≤ 7902896; omega⟩, Nat.le_of_ble_eq_true rfl⟩ (cm_X12_again b a1 I1 J1) (Or.inr rfl) ?_
  show GL L xs E cs 1636 [(0, .ref scx), (1, .ref 0), (2, .ref 81), (3, .ref 128), (4, .int x)] [.int r, .int r] (zs b, I2, J2)
  refine GL.same 1721 985 rfl (by decide) ?_
  exact k
set_option maxRecDepth 100000 in
theorem lc_46 {L : Nat} {xs : Nat → Int32} {E : Ex} {cs : Nat × Nat} (b : Bool) (x a1 a2 a3 a4 : Int32) (I : HI) (J : HJ) (hcs : cs.1 + 2 ≤ 399528 ∧ cs.2 + 59392 ≤ 7902896) (h1 : vp_in (x + (1 : Int32)) L) (h2 : vp_in (x + (2 : Int32)) L) (h3 : vp_in (x + (3 : Int32)) L) (h4 : vp_in (x + (4 : Int32)) L) (e1 : xs (x + (1 : Int32)).toNatClampNeg = a1) (e2 : xs (x + (2 : Int32)).toNatClampNeg = a2) (e3 : xs (x + (3 : Int32)).toNatClampNeg = a3) (e4 : xs (x + (4 : Int32)).toNatClampNeg = a4) (r : Int32) (I2 : HI) (J2 : HJ) (hX : F_X11_count a1 I J = some r) (hM : F_X12_count a1 I J = some (r, I2, J2)) (k : GL L xs E cs 1721 (lvL x) [] (zs b, I2, J2)) : GL L xs E cs 1641 (lvL x) [] (zs b, I, J) := by
  refine GL.g (fun _ k => G.aload_n 988 1 rfl rfl k) ?_
  refine GL.g (fun _ k => G.aload_n 989 0 rfl rfl k) ?_
  refine GL.g (fun _ k => G.iload 990 4 rfl rfl k) ?_
  refine GL.g (fun _ k => G.iconst (1 : Int32) 991 rfl (by decide) k) ?_
  refine GL.g (fun _ k => G.iadd 992 rfl k) ?_
  refine GL.sld 993 rfl h1 e1 ?_
  refine GL.cV (d := 1) (mc := 0) (ms := 0) (av := [.int a1]) (rs := [.int a1]) (b := 0) r hX 994 rfl co_L_227 rfl rfl rfl rfl rfl ⟨⟨Nat.le_of_ble_eq_true rfl, Nat.le_of_ble_eq_true rfl⟩, ⟨by show _ ≤ 399528; omega, by show _ ≤ 7902896; omega⟩, Nat.le_of_ble_eq_true rfl⟩ (cm_X11_count b a1 I J) (Or.inr rfl) ?_
  show GL L xs E cs 1651 [(0, .ref scx), (1, .ref 0), (2, .ref 81), (3, .ref 128), (4, .int x)] [.int r] (zs b, I, J)
  refine GL.g (fun _ k => G.aload_n 995 2 rfl rfl k) ?_
  refine GL.g (fun _ k => G.aload_n 996 0 rfl rfl k) ?_
  refine GL.g (fun _ k => G.iload 997 4 rfl rfl k) ?_
  refine GL.g (fun _ k => G.iconst (1 : Int32) 998 rfl (by decide) k) ?_
  refine GL.g (fun _ k => G.iadd 999 rfl k) ?_
  refine GL.sld 1000 rfl h1 e1 ?_
  refine GL.cV (d := 1) (mc := 0) (ms := 0) (av := [.int a1]) (rs := [.int a1]) (b := 81) (r, I2, J2) hM 1001 rfl co_L_230 rfl rfl rfl rfl rfl ⟨⟨Nat.le_of_ble_eq_true rfl, Nat.le_of_ble_eq_true rfl⟩, ⟨by show _ ≤ 399528; omega, by show _ ≤ 7902896; omega⟩, Nat.le_of_ble_eq_true rfl⟩ (cm_X12_count b a1 I J) (Or.inr rfl) ?_
  show GL L xs E cs 1661 [(0, .ref scx), (1, .ref 0), (2, .ref 81), (3, .ref 128), (4, .int x)] [.int r, .int r] (zs b, I2, J2)
  refine GL.same 1721 1002 rfl (by decide) ?_
  exact k
set_option maxRecDepth 100000 in
theorem ho_lamp : GoodIn wl (va_wsS RL 45 mL_lamp.1 [cdh mL_lamp [(0, 10, 13, 13)]]) ∧ dOk mL_lamp 4 := by
  have h : ((va_wsS RL 45 mL_lamp.1 [cdh mL_lamp [(0, 10, 13, 13)]]).all (fun w => decide (w ∈ lw_tbl) && goodWord w)) = true := by decide +kernel
  refine ⟨fun w hw => ?_, ⟨by decide +kernel, by decide +kernel, by decide +kernel⟩⟩
  have h1 := List.all_eq_true.mp h w hw
  simp only [Bool.and_eq_true, decide_eq_true_eq] at h1
  exact ⟨List.mem_filter.mpr ⟨h1.1, by simp [qw, h1.2]⟩, good_of_word h1.2⟩
set_option maxRecDepth 100000 in
theorem lc_4some {L : Nat} {xs : Nat → Int32} {E : Ex} {cs : Nat × Nat} (b : Bool) (x a1 a2 a3 a4 : Int32) (I : HI) (J : HJ) (hcs : cs.1 + 2 ≤ 399528 ∧ cs.2 + 59392 ≤ 7902896) (h1 : vp_in (x + (1 : Int32)) L) (h2 : vp_in (x + (2 : Int32)) L) (h3 : vp_in (x + (3 : Int32)) L) (h4 : vp_in (x + (4 : Int32)) L) (e1 : xs (x + (1 : Int32)).toNatClampNeg = a1) (e2 : xs (x + (2 : Int32)).toNatClampNeg = a2) (e3 : xs (x + (3 : Int32)).toNatClampNeg = a3) (e4 : xs (x + (4 : Int32)).toNatClampNeg = a4) (w v : Int32) (I2 : HI) (J2 : HJ) (hX : F_X11_lamp a1 a2 I J = some (some w)) (hM : F_X12_lamp a1 a2 I (uj J 128 0 (Int32.toInt64 w)) = some (v, I2, J2)) (hT : F_X12_thrown I2 J2 = some 0) (hJ : J2 128 0 = (Int32.toInt64 w)) (hv : v = w) (k : GL L xs E (cs.1 + 1, cs.2 + 6) 1721 (lvL x) [] (zs b, I2, J2)) : GL L xs E cs 344 (lvL x) [] (zs b, I, J) := by
  refine GL.g (fun _ k => G.aload_n 93 1 rfl rfl k) ?_
  refine GL.g (fun _ k => G.aload_n 94 0 rfl rfl k) ?_
  refine GL.g (fun _ k => G.iload 95 4 rfl rfl k) ?_
  refine GL.g (fun _ k => G.iconst (1 : Int32) 96 rfl (by decide) k) ?_
  refine GL.g (fun _ k => G.iadd 97 rfl k) ?_
  refine GL.sld 98 rfl h1 e1 ?_
  refine GL.g (fun _ k => G.aload_n 99 0 rfl rfl k) ?_
  refine GL.g (fun _ k => G.iload 100 4 rfl rfl k) ?_
  refine GL.g (fun _ k => G.iconst (2 : Int32) 101 rfl (by decide) k) ?_
  refine GL.g (fun _ k => G.iadd 102 rfl k) ?_
  refine GL.sld 103 rfl h2 e2 ?_
  refine GL.g (fun _ k => G.aload_n 104 3 rfl rfl k) ?_
  refine GL.cH (d := 8) (mc := 1) (ms := 6) (av := [.ref 0, .int a1, .int a2, .ref 128]) (rs := [.ref 128, .int a2, .int a1, .ref 0]) 105 rfl ho_lamp rfl rfl ⟨⟨Nat.le_of_ble_eq_true rfl, Nat.le_of_ble_eq_true rfl⟩, ⟨by show _ ≤ 399528; omega, by show _ ≤ 7902896; omega⟩, Nat.le_of_ble_eq_true rfl⟩ (gh_lamp b a1 a2 I J (some w) hX) (fun v h' hq => by rw [hq.2]) (fun v h' hq => ?_)
  obtain ⟨rfl, rfl⟩ := hq
  show GL L xs E (cs.1 + 1, cs.2 + 6) 361 [(0, .ref scx), (1, .ref 0), (2, .ref 81), (3, .ref 128), (4, .int x)] [.int (0 : Int32)] (zs b, I, (uj J 128 0 (Int32.toInt64 w)))
  refine GL.g (fun _ k => G.istore [(5, .int (0 : Int32)), (0, .ref scx), (1, .ref 0), (2, .ref 81), (3, .ref 128), (4, .int x)] 106 rfl (by decide) rfl k) ?_
  refine GL.g (fun _ k => G.aload_n 107 3 rfl rfl k) ?_
  refine GL.g (fun _ k => G.aload_n 108 1 rfl rfl k) ?_
  refine GL.g (fun _ k => G.iload 109 5 rfl rfl k) ?_
  refine GL.g (fun _ k => G.iconst (1 : Int32) 110 rfl (by decide) k) ?_
  refine GL.g (fun _ k => G.iadd 111 rfl k) ?_
  refine GL.sld 112 rfl h1 e1 ?_
  refine GL.g (fun _ k => G.aload_n 113 1 rfl rfl k) ?_
  refine GL.g (fun _ k => G.iload 114 5 rfl rfl k) ?_
  refine GL.g (fun _ k => G.iconst (2 : Int32) 115 rfl (by decide) k) ?_
  refine GL.g (fun _ k => G.iadd 116 rfl k) ?_
  refine GL.sld 117 rfl h2 e2 ?_
  refine GL.cV (d := 3) (mc := 0) (ms := 0) (av := [.int a1, .int a2]) (rs := [.int a2, .int a1]) (b := 81) (v, I2, J2) hM 118 rfl co_L_50 rfl rfl rfl rfl rfl ⟨⟨Nat.le_of_ble_eq_true rfl, Nat.le_of_ble_eq_true rfl⟩, ⟨by show _ ≤ 399528; omega, by show _ ≤ 7902896; omega⟩, Nat.le_of_ble_eq_true rfl⟩ (cm_X12_lamp b a1 a2 I (uj J 128 0 (Int32.toInt64 w))) (Or.inr rfl) ?_
  show GL L xs E (cs.1 + 1, cs.2 + 6) 379 [(5, .int (0 : Int32)), (0, .ref scx), (1, .ref 0), (2, .ref 81), (3, .ref 128), (4, .int x)] [.int v] (zs b, I2, J2)
  refine GL.g (fun _ k => G.istore [(6, .int v), (5, .int (0 : Int32)), (0, .ref scx), (1, .ref 0), (2, .ref 81), (3, .ref 128), (4, .int x)] 119 rfl (by decide) rfl k) ?_
  refine GL.g (fun _ k => G.aload_n 120 4 rfl rfl k) ?_
  refine GL.cV (d := 1) (mc := 0) (ms := 0) (av := []) (rs := []) (b := 81) (0 : Int32) hT 121 rfl co_L_51 rfl rfl rfl rfl rfl ⟨⟨Nat.le_of_ble_eq_true rfl, Nat.le_of_ble_eq_true rfl⟩, ⟨by show _ ≤ 399528; omega, by show _ ≤ 7902896; omega⟩, Nat.le_of_ble_eq_true rfl⟩ (cm_X12_thrown b I2 J2) (Or.inr rfl) ?_
  show GL L xs E (cs.1 + 1, cs.2 + 6) 385 [(6, .int v), (5, .int (0 : Int32)), (0, .ref scx), (1, .ref 0), (2, .ref 81), (3, .ref 128), (4, .int x)] [.int (0 : Int32)] (zs b, I2, J2)
  refine GL.g (fun _ k => G.iload 122 1 rfl rfl k) ?_
  refine GL.same 392 123 rfl (by decide) ?_
  refine GL.g (fun _ k => G.iload 126 1 rfl rfl k) ?_
  refine GL.g (fun _ k => G.if_ne 409 127 rfl (by decide) (fun q => absurd rfl q) (fun _ => k)) ?_
  refine GL.g (fun _ k => G.aload_n 128 5 rfl rfl k) ?_
  refine GL.g (fun _ k => G.iconst (0 : Int32) 129 rfl (by decide) k) ?_
  refine GL.g (fun _ k => G.lald 130 rfl rfl (by unfold vp_in; decide) k) ?_
  refine GL.g (fun _ k => G.iload 131 0 rfl rfl k) ?_
  refine GL.g (fun _ k => G.i2l 132 rfl k) ?_
  show GL L xs E (cs.1 + 1, cs.2 + 6) 403 [(6, .int v), (5, .int (0 : Int32)), (0, .ref scx), (1, .ref 0), (2, .ref 81), (3, .ref 128), (4, .int x)] [.long (Int32.toInt64 v), .long (J2 128 0)] (zs b, I2, J2)
  rw [hJ, hv]
  refine GL.lsame 409 134 133 rfl rfl (by decide) ?_
  refine GL.g (fun _ k => G.goto 1721 137 rfl (by decide) k) ?_
  refine GL.g (fun _ k => G.sub (lv' := lvL x) [2, 3, 4, 5, 6] rfl k) ?_
  exact k
set_option maxRecDepth 100000 in
theorem lc_4none {L : Nat} {xs : Nat → Int32} {E : Ex} {cs : Nat × Nat} (b : Bool) (x a1 a2 a3 a4 : Int32) (I : HI) (J : HJ) (hcs : cs.1 + 2 ≤ 399528 ∧ cs.2 + 59392 ≤ 7902896) (h1 : vp_in (x + (1 : Int32)) L) (h2 : vp_in (x + (2 : Int32)) L) (h3 : vp_in (x + (3 : Int32)) L) (h4 : vp_in (x + (4 : Int32)) L) (e1 : xs (x + (1 : Int32)).toNatClampNeg = a1) (e2 : xs (x + (2 : Int32)).toNatClampNeg = a2) (e3 : xs (x + (3 : Int32)).toNatClampNeg = a3) (e4 : xs (x + (4 : Int32)).toNatClampNeg = a4) (v : Int32) (I2 : HI) (J2 : HJ) (hX : F_X11_lamp a1 a2 I J = some none) (hM : F_X12_lamp a1 a2 I J = some (v, I2, J2)) (hT : F_X12_thrown I2 J2 = some 1) (k : GL L xs E (cs.1 + 1, cs.2 + 6) 1721 (lvL x) [] (zs b, I2, J2)) : GL L xs E cs 344 (lvL x) [] (zs b, I, J) := by
  refine GL.g (fun _ k => G.aload_n 93 1 rfl rfl k) ?_
  refine GL.g (fun _ k => G.aload_n 94 0 rfl rfl k) ?_
  refine GL.g (fun _ k => G.iload 95 4 rfl rfl k) ?_
  refine GL.g (fun _ k => G.iconst (1 : Int32) 96 rfl (by decide) k) ?_
  refine GL.g (fun _ k => G.iadd 97 rfl k) ?_
  refine GL.sld 98 rfl h1 e1 ?_
  refine GL.g (fun _ k => G.aload_n 99 0 rfl rfl k) ?_
  refine GL.g (fun _ k => G.iload 100 4 rfl rfl k) ?_
  refine GL.g (fun _ k => G.iconst (2 : Int32) 101 rfl (by decide) k) ?_
  refine GL.g (fun _ k => G.iadd 102 rfl k) ?_
  refine GL.sld 103 rfl h2 e2 ?_
  refine GL.g (fun _ k => G.aload_n 104 3 rfl rfl k) ?_
  refine GL.cH (d := 8) (mc := 1) (ms := 6) (av := [.ref 0, .int a1, .int a2, .ref 128]) (rs := [.ref 128, .int a2, .int a1, .ref 0]) 105 rfl ho_lamp rfl rfl ⟨⟨Nat.le_of_ble_eq_true rfl, Nat.le_of_ble_eq_true rfl⟩, ⟨by show _ ≤ 399528; omega, by show _ ≤ 7902896; omega⟩, Nat.le_of_ble_eq_true rfl⟩ (gh_lamp b a1 a2 I J none hX) (fun v h' hq => by rw [hq.2]) (fun v h' hq => ?_)
  obtain ⟨rfl, rfl⟩ := hq
  show GL L xs E (cs.1 + 1, cs.2 + 6) 361 [(0, .ref scx), (1, .ref 0), (2, .ref 81), (3, .ref 128), (4, .int x)] [.int (1 : Int32)] (zs b, I, J)
  refine GL.g (fun _ k => G.istore [(5, .int (1 : Int32)), (0, .ref scx), (1, .ref 0), (2, .ref 81), (3, .ref 128), (4, .int x)] 106 rfl (by decide) rfl k) ?_
  refine GL.g (fun _ k => G.aload_n 107 3 rfl rfl k) ?_
  refine GL.g (fun _ k => G.aload_n 108 1 rfl rfl k) ?_
  refine GL.g (fun _ k => G.iload 109 5 rfl rfl k) ?_
  refine GL.g (fun _ k => G.iconst (1 : Int32) 110 rfl (by decide) k) ?_
  refine GL.g (fun _ k => G.iadd 111 rfl k) ?_
  refine GL.sld 112 rfl h1 e1 ?_
  refine GL.g (fun _ k => G.aload_n 113 1 rfl rfl k) ?_
  refine GL.g (fun _ k => G.iload 114 5 rfl rfl k) ?_
  refine GL.g (fun _ k => G.iconst (2 : Int32) 115 rfl (by decide) k) ?_
  refine GL.g (fun _ k => G.iadd 116 rfl k) ?_
  refine GL.sld 117 rfl h2 e2 ?_
  refine GL.cV (d := 3) (mc := 0) (ms := 0) (av := [.int a1, .int a2]) (rs := [.int a2, .int a1]) (b := 81) (v, I2, J2) hM 118 rfl co_L_50 rfl rfl rfl rfl rfl ⟨⟨Nat.le_of_ble_eq_true rfl, Nat.le_of_ble_eq_true rfl⟩, ⟨by show _ ≤ 399528; omega, by show _ ≤ 7902896; omega⟩, Nat.le_of_ble_eq_true rfl⟩ (cm_X12_lamp b a1 a2 I J) (Or.inr rfl) ?_
  show GL L xs E (cs.1 + 1, cs.2 + 6) 379 [(5, .int (1 : Int32)), (0, .ref scx), (1, .ref 0), (2, .ref 81), (3, .ref 128), (4, .int x)] [.int v] (zs b, I2, J2)
  refine GL.g (fun _ k => G.istore [(6, .int v), (5, .int (1 : Int32)), (0, .ref scx), (1, .ref 0), (2, .ref 81), (3, .ref 128), (4, .int x)] 119 rfl (by decide) rfl k) ?_
  refine GL.g (fun _ k => G.aload_n 120 4 rfl rfl k) ?_
  refine GL.cV (d := 1) (mc := 0) (ms := 0) (av := []) (rs := []) (b := 81) (1 : Int32) hT 121 rfl co_L_51 rfl rfl rfl rfl rfl ⟨⟨Nat.le_of_ble_eq_true rfl, Nat.le_of_ble_eq_true rfl⟩, ⟨by show _ ≤ 399528; omega, by show _ ≤ 7902896; omega⟩, Nat.le_of_ble_eq_true rfl⟩ (cm_X12_thrown b I2 J2) (Or.inr rfl) ?_
  show GL L xs E (cs.1 + 1, cs.2 + 6) 385 [(6, .int v), (5, .int (1 : Int32)), (0, .ref scx), (1, .ref 0), (2, .ref 81), (3, .ref 128), (4, .int x)] [.int (1 : Int32)] (zs b, I2, J2)
  refine GL.g (fun _ k => G.iload 122 1 rfl rfl k) ?_
  refine GL.same 392 123 rfl (by decide) ?_
  refine GL.g (fun _ k => G.iload 126 1 rfl rfl k) ?_
  refine GL.g (fun _ k => G.if_ne 409 127 rfl (by decide) (fun _ => k) (fun q => absurd q (by decide))) ?_
  refine GL.g (fun _ k => G.goto 1721 137 rfl (by decide) k) ?_
  refine GL.g (fun _ k => G.sub (lv' := lvL x) [2, 3, 4, 5, 6] rfl k) ?_
  exact k
set_option maxRecDepth 100000 in
theorem ho_fault : GoodIn wl (va_wsS RL 166 mL_fault.1 [cdh mL_fault [(0, 10, 13, 13)]]) ∧ dOk mL_fault 4 := by
  have h : ((va_wsS RL 166 mL_fault.1 [cdh mL_fault [(0, 10, 13, 13)]]).all (fun w => decide (w ∈ lw_tbl) && goodWord w)) = true := by decide +kernel
  refine ⟨fun w hw => ?_, ⟨by decide +kernel, by decide +kernel, by decide +kernel⟩⟩
  have h1 := List.all_eq_true.mp h w hw
  simp only [Bool.and_eq_true, decide_eq_true_eq] at h1
  exact ⟨List.mem_filter.mpr ⟨h1.1, by simp [qw, h1.2]⟩, good_of_word h1.2⟩
set_option maxRecDepth 100000 in
theorem lc_31some {L : Nat} {xs : Nat → Int32} {E : Ex} {cs : Nat × Nat} (b : Bool) (x a1 a2 a3 a4 : Int32) (I : HI) (J : HJ) (hcs : cs.1 + 2 ≤ 399528 ∧ cs.2 + 59392 ≤ 7902896) (h1 : vp_in (x + (1 : Int32)) L) (h2 : vp_in (x + (2 : Int32)) L) (h3 : vp_in (x + (3 : Int32)) L) (h4 : vp_in (x + (4 : Int32)) L) (e1 : xs (x + (1 : Int32)).toNatClampNeg = a1) (e2 : xs (x + (2 : Int32)).toNatClampNeg = a2) (e3 : xs (x + (3 : Int32)).toNatClampNeg = a3) (e4 : xs (x + (4 : Int32)).toNatClampNeg = a4) (w v : Int32) (I2 : HI) (J2 : HJ) (hX : F_X11_fault a1 a2 I J = some (some w)) (hM : F_X12_fault_ a1 a2 I (uj J 128 0 (Int32.toInt64 w)) = some (v, I2, J2)) (hT : F_X12_thrown I2 J2 = some 0) (hJ : J2 128 0 = (Int32.toInt64 w)) (hv : v = w) (k : GL L xs E (cs.1 + 1, cs.2 + 6) 1721 (lvL x) [] (zs b, I2, J2)) : GL L xs E cs 1178 (lvL x) [] (zs b, I, J) := by
  refine GL.g (fun _ k => G.aload_n 670 1 rfl rfl k) ?_
  refine GL.g (fun _ k => G.aload_n 671 0 rfl rfl k) ?_
  refine GL.g (fun _ k => G.iload 672 4 rfl rfl k) ?_
  refine GL.g (fun _ k => G.iconst (1 : Int32) 673 rfl (by decide) k) ?_
  refine GL.g (fun _ k => G.iadd 674 rfl k) ?_
  refine GL.sld 675 rfl h1 e1 ?_
  refine GL.g (fun _ k => G.aload_n 676 0 rfl rfl k) ?_
  refine GL.g (fun _ k => G.iload 677 4 rfl rfl k) ?_
  refine GL.g (fun _ k => G.iconst (2 : Int32) 678 rfl (by decide) k) ?_
  refine GL.g (fun _ k => G.iadd 679 rfl k) ?_
  refine GL.sld 680 rfl h2 e2 ?_
  refine GL.g (fun _ k => G.aload_n 681 3 rfl rfl k) ?_
  refine GL.cH (d := 8) (mc := 1) (ms := 6) (av := [.ref 0, .int a1, .int a2, .ref 128]) (rs := [.ref 128, .int a2, .int a1, .ref 0]) 682 rfl ho_fault rfl rfl ⟨⟨Nat.le_of_ble_eq_true rfl, Nat.le_of_ble_eq_true rfl⟩, ⟨by show _ ≤ 399528; omega, by show _ ≤ 7902896; omega⟩, Nat.le_of_ble_eq_true rfl⟩ (gh_fault b a1 a2 I J (some w) hX) (fun v h' hq => by rw [hq.2]) (fun v h' hq => ?_)
  obtain ⟨rfl, rfl⟩ := hq
  show GL L xs E (cs.1 + 1, cs.2 + 6) 1195 [(0, .ref scx), (1, .ref 0), (2, .ref 81), (3, .ref 128), (4, .int x)] [.int (0 : Int32)] (zs b, I, (uj J 128 0 (Int32.toInt64 w)))
  refine GL.g (fun _ k => G.istore [(5, .int (0 : Int32)), (0, .ref scx), (1, .ref 0), (2, .ref 81), (3, .ref 128), (4, .int x)] 683 rfl (by decide) rfl k) ?_
  refine GL.g (fun _ k => G.aload_n 684 3 rfl rfl k) ?_
  refine GL.g (fun _ k => G.aload_n 685 1 rfl rfl k) ?_
  refine GL.g (fun _ k => G.iload 686 5 rfl rfl k) ?_
  refine GL.g (fun _ k => G.iconst (1 : Int32) 687 rfl (by decide) k) ?_
  refine GL.g (fun _ k => G.iadd 688 rfl k) ?_
  refine GL.sld 689 rfl h1 e1 ?_
  refine GL.g (fun _ k => G.aload_n 690 1 rfl rfl k) ?_
  refine GL.g (fun _ k => G.iload 691 5 rfl rfl k) ?_
  refine GL.g (fun _ k => G.iconst (2 : Int32) 692 rfl (by decide) k) ?_
  refine GL.g (fun _ k => G.iadd 693 rfl k) ?_
  refine GL.sld 694 rfl h2 e2 ?_
  refine GL.cV (d := 4) (mc := 0) (ms := 0) (av := [.int a1, .int a2]) (rs := [.int a2, .int a1]) (b := 81) (v, I2, J2) hM 695 rfl co_L_168 rfl rfl rfl rfl rfl ⟨⟨Nat.le_of_ble_eq_true rfl, Nat.le_of_ble_eq_true rfl⟩, ⟨by show _ ≤ 399528; omega, by show _ ≤ 7902896; omega⟩, Nat.le_of_ble_eq_true rfl⟩ (cm_X12_fault_ b a1 a2 I (uj J 128 0 (Int32.toInt64 w))) (Or.inr rfl) ?_
  show GL L xs E (cs.1 + 1, cs.2 + 6) 1213 [(5, .int (0 : Int32)), (0, .ref scx), (1, .ref 0), (2, .ref 81), (3, .ref 128), (4, .int x)] [.int v] (zs b, I2, J2)
  refine GL.g (fun _ k => G.istore [(6, .int v), (5, .int (0 : Int32)), (0, .ref scx), (1, .ref 0), (2, .ref 81), (3, .ref 128), (4, .int x)] 696 rfl (by decide) rfl k) ?_
  refine GL.g (fun _ k => G.aload_n 697 4 rfl rfl k) ?_
  refine GL.cV (d := 1) (mc := 0) (ms := 0) (av := []) (rs := []) (b := 81) (0 : Int32) hT 698 rfl co_L_51 rfl rfl rfl rfl rfl ⟨⟨Nat.le_of_ble_eq_true rfl, Nat.le_of_ble_eq_true rfl⟩, ⟨by show _ ≤ 399528; omega, by show _ ≤ 7902896; omega⟩, Nat.le_of_ble_eq_true rfl⟩ (cm_X12_thrown b I2 J2) (Or.inr rfl) ?_
  show GL L xs E (cs.1 + 1, cs.2 + 6) 1219 [(6, .int v), (5, .int (0 : Int32)), (0, .ref scx), (1, .ref 0), (2, .ref 81), (3, .ref 128), (4, .int x)] [.int (0 : Int32)] (zs b, I2, J2)
  refine GL.g (fun _ k => G.iload 699 1 rfl rfl k) ?_
  refine GL.same 1226 700 rfl (by decide) ?_
  refine GL.g (fun _ k => G.iload 703 1 rfl rfl k) ?_
  refine GL.g (fun _ k => G.if_ne 1243 704 rfl (by decide) (fun q => absurd rfl q) (fun _ => k)) ?_
  refine GL.g (fun _ k => G.aload_n 705 5 rfl rfl k) ?_
  refine GL.g (fun _ k => G.iconst (0 : Int32) 706 rfl (by decide) k) ?_
  refine GL.g (fun _ k => G.lald 707 rfl rfl (by unfold vp_in; decide) k) ?_
  refine GL.g (fun _ k => G.iload 708 0 rfl rfl k) ?_
  refine GL.g (fun _ k => G.i2l 709 rfl k) ?_
  show GL L xs E (cs.1 + 1, cs.2 + 6) 1237 [(6, .int v), (5, .int (0 : Int32)), (0, .ref scx), (1, .ref 0), (2, .ref 81), (3, .ref 128), (4, .int x)] [.long (Int32.toInt64 v), .long (J2 128 0)] (zs b, I2, J2)
  rw [hJ, hv]
  refine GL.lsame 1243 711 710 rfl rfl (by decide) ?_
  refine GL.g (fun _ k => G.goto 1721 714 rfl (by decide) k) ?_
  refine GL.g (fun _ k => G.sub (lv' := lvL x) [2, 3, 4, 5, 6] rfl k) ?_
  exact k
set_option maxRecDepth 100000 in
theorem lc_31none {L : Nat} {xs : Nat → Int32} {E : Ex} {cs : Nat × Nat} (b : Bool) (x a1 a2 a3 a4 : Int32) (I : HI) (J : HJ) (hcs : cs.1 + 2 ≤ 399528 ∧ cs.2 + 59392 ≤ 7902896) (h1 : vp_in (x + (1 : Int32)) L) (h2 : vp_in (x + (2 : Int32)) L) (h3 : vp_in (x + (3 : Int32)) L) (h4 : vp_in (x + (4 : Int32)) L) (e1 : xs (x + (1 : Int32)).toNatClampNeg = a1) (e2 : xs (x + (2 : Int32)).toNatClampNeg = a2) (e3 : xs (x + (3 : Int32)).toNatClampNeg = a3) (e4 : xs (x + (4 : Int32)).toNatClampNeg = a4) (v : Int32) (I2 : HI) (J2 : HJ) (hX : F_X11_fault a1 a2 I J = some none) (hM : F_X12_fault_ a1 a2 I J = some (v, I2, J2)) (hT : F_X12_thrown I2 J2 = some 1) (k : GL L xs E (cs.1 + 1, cs.2 + 6) 1721 (lvL x) [] (zs b, I2, J2)) : GL L xs E cs 1178 (lvL x) [] (zs b, I, J) := by
  refine GL.g (fun _ k => G.aload_n 670 1 rfl rfl k) ?_
  refine GL.g (fun _ k => G.aload_n 671 0 rfl rfl k) ?_
  refine GL.g (fun _ k => G.iload 672 4 rfl rfl k) ?_
  refine GL.g (fun _ k => G.iconst (1 : Int32) 673 rfl (by decide) k) ?_
  refine GL.g (fun _ k => G.iadd 674 rfl k) ?_
  refine GL.sld 675 rfl h1 e1 ?_
  refine GL.g (fun _ k => G.aload_n 676 0 rfl rfl k) ?_
  refine GL.g (fun _ k => G.iload 677 4 rfl rfl k) ?_
  refine GL.g (fun _ k => G.iconst (2 : Int32) 678 rfl (by decide) k) ?_
  refine GL.g (fun _ k => G.iadd 679 rfl k) ?_
  refine GL.sld 680 rfl h2 e2 ?_
  refine GL.g (fun _ k => G.aload_n 681 3 rfl rfl k) ?_
  refine GL.cH (d := 8) (mc := 1) (ms := 6) (av := [.ref 0, .int a1, .int a2, .ref 128]) (rs := [.ref 128, .int a2, .int a1, .ref 0]) 682 rfl ho_fault rfl rfl ⟨⟨Nat.le_of_ble_eq_true rfl, Nat.le_of_ble_eq_true rfl⟩, ⟨by show _ ≤ 399528; omega, by show _ ≤ 7902896; omega⟩, Nat.le_of_ble_eq_true rfl⟩ (gh_fault b a1 a2 I J none hX) (fun v h' hq => by rw [hq.2]) (fun v h' hq => ?_)
  obtain ⟨rfl, rfl⟩ := hq
  show GL L xs E (cs.1 + 1, cs.2 + 6) 1195 [(0, .ref scx), (1, .ref 0), (2, .ref 81), (3, .ref 128), (4, .int x)] [.int (1 : Int32)] (zs b, I, J)
  refine GL.g (fun _ k => G.istore [(5, .int (1 : Int32)), (0, .ref scx), (1, .ref 0), (2, .ref 81), (3, .ref 128), (4, .int x)] 683 rfl (by decide) rfl k) ?_
  refine GL.g (fun _ k => G.aload_n 684 3 rfl rfl k) ?_
  refine GL.g (fun _ k => G.aload_n 685 1 rfl rfl k) ?_
  refine GL.g (fun _ k => G.iload 686 5 rfl rfl k) ?_
  refine GL.g (fun _ k => G.iconst (1 : Int32) 687 rfl (by decide) k) ?_
  refine GL.g (fun _ k => G.iadd 688 rfl k) ?_
  refine GL.sld 689 rfl h1 e1 ?_
  refine GL.g (fun _ k => G.aload_n 690 1 rfl rfl k) ?_
  refine GL.g (fun _ k => G.iload 691 5 rfl rfl k) ?_
  refine GL.g (fun _ k => G.iconst (2 : Int32) 692 rfl (by decide) k) ?_
  refine GL.g (fun _ k => G.iadd 693 rfl k) ?_
  refine GL.sld 694 rfl h2 e2 ?_
  refine GL.cV (d := 4) (mc := 0) (ms := 0) (av := [.int a1, .int a2]) (rs := [.int a2, .int a1]) (b := 81) (v, I2, J2) hM 695 rfl co_L_168 rfl rfl rfl rfl rfl ⟨⟨Nat.le_of_ble_eq_true rfl, Nat.le_of_ble_eq_true rfl⟩, ⟨by show _ ≤ 399528; omega, by show _ ≤ 7902896; omega⟩, Nat.le_of_ble_eq_true rfl⟩ (cm_X12_fault_ b a1 a2 I J) (Or.inr rfl) ?_
  show GL L xs E (cs.1 + 1, cs.2 + 6) 1213 [(5, .int (1 : Int32)), (0, .ref scx), (1, .ref 0), (2, .ref 81), (3, .ref 128), (4, .int x)] [.int v] (zs b, I2, J2)
  refine GL.g (fun _ k => G.istore [(6, .int v), (5, .int (1 : Int32)), (0, .ref scx), (1, .ref 0), (2, .ref 81), (3, .ref 128), (4, .int x)] 696 rfl (by decide) rfl k) ?_
  refine GL.g (fun _ k => G.aload_n 697 4 rfl rfl k) ?_
  refine GL.cV (d := 1) (mc := 0) (ms := 0) (av := []) (rs := []) (b := 81) (1 : Int32) hT 698 rfl co_L_51 rfl rfl rfl rfl rfl ⟨⟨Nat.le_of_ble_eq_true rfl, Nat.le_of_ble_eq_true rfl⟩, ⟨by show _ ≤ 399528; omega, by show _ ≤ 7902896; omega⟩, Nat.le_of_ble_eq_true rfl⟩ (cm_X12_thrown b I2 J2) (Or.inr rfl) ?_
  show GL L xs E (cs.1 + 1, cs.2 + 6) 1219 [(6, .int v), (5, .int (1 : Int32)), (0, .ref scx), (1, .ref 0), (2, .ref 81), (3, .ref 128), (4, .int x)] [.int (1 : Int32)] (zs b, I2, J2)
  refine GL.g (fun _ k => G.iload 699 1 rfl rfl k) ?_
  refine GL.same 1226 700 rfl (by decide) ?_
  refine GL.g (fun _ k => G.iload 703 1 rfl rfl k) ?_
  refine GL.g (fun _ k => G.if_ne 1243 704 rfl (by decide) (fun _ => k) (fun q => absurd q (by decide))) ?_
  refine GL.g (fun _ k => G.goto 1721 714 rfl (by decide) k) ?_
  refine GL.g (fun _ k => G.sub (lv' := lvL x) [2, 3, 4, 5, 6] rfl k) ?_
  exact k
set_option maxRecDepth 100000 in
theorem ho_row : GoodIn wl (va_wsS RL 231 mL_row.1 [cdh mL_row [(0, 8, 11, 13)]]) ∧ dOk mL_row 3 := by
  have h : ((va_wsS RL 231 mL_row.1 [cdh mL_row [(0, 8, 11, 13)]]).all (fun w => decide (w ∈ lw_tbl) && goodWord w)) = true := by decide +kernel
  refine ⟨fun w hw => ?_, ⟨by decide +kernel, by decide +kernel, by decide +kernel⟩⟩
  have h1 := List.all_eq_true.mp h w hw
  simp only [Bool.and_eq_true, decide_eq_true_eq] at h1
  exact ⟨List.mem_filter.mpr ⟨h1.1, by simp [qw, h1.2]⟩, good_of_word h1.2⟩
set_option maxRecDepth 100000 in
theorem lc_47some {L : Nat} {xs : Nat → Int32} {E : Ex} {cs : Nat × Nat} (b : Bool) (x a1 a2 a3 a4 : Int32) (I : HI) (J : HJ) (hcs : cs.1 + 2 ≤ 399528 ∧ cs.2 + 59392 ≤ 7902896) (h1 : vp_in (x + (1 : Int32)) L) (h2 : vp_in (x + (2 : Int32)) L) (h3 : vp_in (x + (3 : Int32)) L) (h4 : vp_in (x + (4 : Int32)) L) (e1 : xs (x + (1 : Int32)).toNatClampNeg = a1) (e2 : xs (x + (2 : Int32)).toNatClampNeg = a2) (e3 : xs (x + (3 : Int32)).toNatClampNeg = a3) (e4 : xs (x + (4 : Int32)).toNatClampNeg = a4) (w v : Int64) (I2 : HI) (J2 : HJ) (hX : F_X11_row a1 I J = some (some w)) (hM : F_X12_row a1 I (uj J 128 0 w) = some (v, I2, J2)) (hT : F_X12_thrown I2 J2 = some 0) (hJ : J2 128 0 = w) (hv : v = w) (k : GL L xs E (cs.1 + 1, cs.2 + 6) 1721 (lvL x) [] (zs b, I2, J2)) : GL L xs E cs 1666 (lvL x) [] (zs b, I, J) := by
  refine GL.g (fun _ k => G.aload_n 1005 1 rfl rfl k) ?_
  refine GL.g (fun _ k => G.aload_n 1006 0 rfl rfl k) ?_
  refine GL.g (fun _ k => G.iload 1007 4 rfl rfl k) ?_
  refine GL.g (fun _ k => G.iconst (1 : Int32) 1008 rfl (by decide) k) ?_
  refine GL.g (fun _ k => G.iadd 1009 rfl k) ?_
  refine GL.sld 1010 rfl h1 e1 ?_
  refine GL.g (fun _ k => G.aload_n 1011 3 rfl rfl k) ?_
  refine GL.cH (d := 8) (mc := 1) (ms := 6) (av := [.ref 0, .int a1, .ref 128]) (rs := [.ref 128, .int a1, .ref 0]) 1012 rfl ho_row rfl rfl ⟨⟨Nat.le_of_ble_eq_true rfl, Nat.le_of_ble_eq_true rfl⟩, ⟨by show _ ≤ 399528; omega, by show _ ≤ 7902896; omega⟩, Nat.le_of_ble_eq_true rfl⟩ (gh_row b a1 I J (some w) hX) (fun v h' hq => by rw [hq.2]) (fun v h' hq => ?_)
  obtain ⟨rfl, rfl⟩ := hq
  show GL L xs E (cs.1 + 1, cs.2 + 6) 1677 [(0, .ref scx), (1, .ref 0), (2, .ref 81), (3, .ref 128), (4, .int x)] [.int (0 : Int32)] (zs b, I, (uj J 128 0 w))
  refine GL.g (fun _ k => G.istore [(5, .int (0 : Int32)), (0, .ref scx), (1, .ref 0), (2, .ref 81), (3, .ref 128), (4, .int x)] 1013 rfl (by decide) rfl k) ?_
  refine GL.g (fun _ k => G.aload_n 1014 3 rfl rfl k) ?_
  refine GL.g (fun _ k => G.aload_n 1015 1 rfl rfl k) ?_
  refine GL.g (fun _ k => G.iload 1016 5 rfl rfl k) ?_
  refine GL.g (fun _ k => G.iconst (1 : Int32) 1017 rfl (by decide) k) ?_
  refine GL.g (fun _ k => G.iadd 1018 rfl k) ?_
  refine GL.sld 1019 rfl h1 e1 ?_
  refine GL.cV (d := 2) (mc := 0) (ms := 0) (av := [.int a1]) (rs := [.int a1]) (b := 81) (v, I2, J2) hM 1020 rfl co_L_234 rfl rfl rfl rfl rfl ⟨⟨Nat.le_of_ble_eq_true rfl, Nat.le_of_ble_eq_true rfl⟩, ⟨by show _ ≤ 399528; omega, by show _ ≤ 7902896; omega⟩, Nat.le_of_ble_eq_true rfl⟩ (cm_X12_row b a1 I (uj J 128 0 w)) (Or.inr rfl) ?_
  show GL L xs E (cs.1 + 1, cs.2 + 6) 1689 [(5, .int (0 : Int32)), (0, .ref scx), (1, .ref 0), (2, .ref 81), (3, .ref 128), (4, .int x)] [.long v] (zs b, I2, J2)
  refine GL.g (fun _ k => G.lstore [(6, .long v), (5, .int (0 : Int32)), (0, .ref scx), (1, .ref 0), (2, .ref 81), (3, .ref 128), (4, .int x)] 1021 rfl (by decide) rfl k) ?_
  refine GL.g (fun _ k => G.aload_n 1022 4 rfl rfl k) ?_
  refine GL.cV (d := 1) (mc := 0) (ms := 0) (av := []) (rs := []) (b := 81) (0 : Int32) hT 1023 rfl co_L_51 rfl rfl rfl rfl rfl ⟨⟨Nat.le_of_ble_eq_true rfl, Nat.le_of_ble_eq_true rfl⟩, ⟨by show _ ≤ 399528; omega, by show _ ≤ 7902896; omega⟩, Nat.le_of_ble_eq_true rfl⟩ (cm_X12_thrown b I2 J2) (Or.inr rfl) ?_
  show GL L xs E (cs.1 + 1, cs.2 + 6) 1695 [(6, .long v), (5, .int (0 : Int32)), (0, .ref scx), (1, .ref 0), (2, .ref 81), (3, .ref 128), (4, .int x)] [.int (0 : Int32)] (zs b, I2, J2)
  refine GL.g (fun _ k => G.iload 1024 1 rfl rfl k) ?_
  refine GL.same 1702 1025 rfl (by decide) ?_
  refine GL.g (fun _ k => G.iload 1028 1 rfl rfl k) ?_
  refine GL.g (fun _ k => G.if_ne 1718 1029 rfl (by decide) (fun q => absurd rfl q) (fun _ => k)) ?_
  refine GL.g (fun _ k => G.aload_n 1030 5 rfl rfl k) ?_
  refine GL.g (fun _ k => G.iconst (0 : Int32) 1031 rfl (by decide) k) ?_
  refine GL.g (fun _ k => G.lald 1032 rfl rfl (by unfold vp_in; decide) k) ?_
  refine GL.g (fun _ k => G.lload 1033 0 rfl rfl k) ?_
  show GL L xs E (cs.1 + 1, cs.2 + 6) 1712 [(6, .long v), (5, .int (0 : Int32)), (0, .ref scx), (1, .ref 0), (2, .ref 81), (3, .ref 128), (4, .int x)] [.long v, .long (J2 128 0)] (zs b, I2, J2)
  rw [hJ, hv]
  refine GL.lsame 1718 1035 1034 rfl rfl (by decide) ?_
  refine GL.g (fun _ k => G.goto 1721 1038 rfl (by decide) k) ?_
  refine GL.g (fun _ k => G.sub (lv' := lvL x) [2, 3, 4, 5, 6] rfl k) ?_
  exact k
set_option maxRecDepth 100000 in
theorem lc_47none {L : Nat} {xs : Nat → Int32} {E : Ex} {cs : Nat × Nat} (b : Bool) (x a1 a2 a3 a4 : Int32) (I : HI) (J : HJ) (hcs : cs.1 + 2 ≤ 399528 ∧ cs.2 + 59392 ≤ 7902896) (h1 : vp_in (x + (1 : Int32)) L) (h2 : vp_in (x + (2 : Int32)) L) (h3 : vp_in (x + (3 : Int32)) L) (h4 : vp_in (x + (4 : Int32)) L) (e1 : xs (x + (1 : Int32)).toNatClampNeg = a1) (e2 : xs (x + (2 : Int32)).toNatClampNeg = a2) (e3 : xs (x + (3 : Int32)).toNatClampNeg = a3) (e4 : xs (x + (4 : Int32)).toNatClampNeg = a4) (v : Int64) (I2 : HI) (J2 : HJ) (hX : F_X11_row a1 I J = some none) (hM : F_X12_row a1 I J = some (v, I2, J2)) (hT : F_X12_thrown I2 J2 = some 1) (k : GL L xs E (cs.1 + 1, cs.2 + 6) 1721 (lvL x) [] (zs b, I2, J2)) : GL L xs E cs 1666 (lvL x) [] (zs b, I, J) := by
  refine GL.g (fun _ k => G.aload_n 1005 1 rfl rfl k) ?_
  refine GL.g (fun _ k => G.aload_n 1006 0 rfl rfl k) ?_
  refine GL.g (fun _ k => G.iload 1007 4 rfl rfl k) ?_
  refine GL.g (fun _ k => G.iconst (1 : Int32) 1008 rfl (by decide) k) ?_
  refine GL.g (fun _ k => G.iadd 1009 rfl k) ?_
  refine GL.sld 1010 rfl h1 e1 ?_
  refine GL.g (fun _ k => G.aload_n 1011 3 rfl rfl k) ?_
  refine GL.cH (d := 8) (mc := 1) (ms := 6) (av := [.ref 0, .int a1, .ref 128]) (rs := [.ref 128, .int a1, .ref 0]) 1012 rfl ho_row rfl rfl ⟨⟨Nat.le_of_ble_eq_true rfl, Nat.le_of_ble_eq_true rfl⟩, ⟨by show _ ≤ 399528; omega, by show _ ≤ 7902896; omega⟩, Nat.le_of_ble_eq_true rfl⟩ (gh_row b a1 I J none hX) (fun v h' hq => by rw [hq.2]) (fun v h' hq => ?_)
  obtain ⟨rfl, rfl⟩ := hq
  show GL L xs E (cs.1 + 1, cs.2 + 6) 1677 [(0, .ref scx), (1, .ref 0), (2, .ref 81), (3, .ref 128), (4, .int x)] [.int (1 : Int32)] (zs b, I, J)
  refine GL.g (fun _ k => G.istore [(5, .int (1 : Int32)), (0, .ref scx), (1, .ref 0), (2, .ref 81), (3, .ref 128), (4, .int x)] 1013 rfl (by decide) rfl k) ?_
  refine GL.g (fun _ k => G.aload_n 1014 3 rfl rfl k) ?_
  refine GL.g (fun _ k => G.aload_n 1015 1 rfl rfl k) ?_
  refine GL.g (fun _ k => G.iload 1016 5 rfl rfl k) ?_
  refine GL.g (fun _ k => G.iconst (1 : Int32) 1017 rfl (by decide) k) ?_
  refine GL.g (fun _ k => G.iadd 1018 rfl k) ?_
  refine GL.sld 1019 rfl h1 e1 ?_
  refine GL.cV (d := 2) (mc := 0) (ms := 0) (av := [.int a1]) (rs := [.int a1]) (b := 81) (v, I2, J2) hM 1020 rfl co_L_234 rfl rfl rfl rfl rfl ⟨⟨Nat.le_of_ble_eq_true rfl, Nat.le_of_ble_eq_true rfl⟩, ⟨by show _ ≤ 399528; omega, by show _ ≤ 7902896; omega⟩, Nat.le_of_ble_eq_true rfl⟩ (cm_X12_row b a1 I J) (Or.inr rfl) ?_
  show GL L xs E (cs.1 + 1, cs.2 + 6) 1689 [(5, .int (1 : Int32)), (0, .ref scx), (1, .ref 0), (2, .ref 81), (3, .ref 128), (4, .int x)] [.long v] (zs b, I2, J2)
  refine GL.g (fun _ k => G.lstore [(6, .long v), (5, .int (1 : Int32)), (0, .ref scx), (1, .ref 0), (2, .ref 81), (3, .ref 128), (4, .int x)] 1021 rfl (by decide) rfl k) ?_
  refine GL.g (fun _ k => G.aload_n 1022 4 rfl rfl k) ?_
  refine GL.cV (d := 1) (mc := 0) (ms := 0) (av := []) (rs := []) (b := 81) (1 : Int32) hT 1023 rfl co_L_51 rfl rfl rfl rfl rfl ⟨⟨Nat.le_of_ble_eq_true rfl, Nat.le_of_ble_eq_true rfl⟩, ⟨by show _ ≤ 399528; omega, by show _ ≤ 7902896; omega⟩, Nat.le_of_ble_eq_true rfl⟩ (cm_X12_thrown b I2 J2) (Or.inr rfl) ?_
  show GL L xs E (cs.1 + 1, cs.2 + 6) 1695 [(6, .long v), (5, .int (1 : Int32)), (0, .ref scx), (1, .ref 0), (2, .ref 81), (3, .ref 128), (4, .int x)] [.int (1 : Int32)] (zs b, I2, J2)
  refine GL.g (fun _ k => G.iload 1024 1 rfl rfl k) ?_
  refine GL.same 1702 1025 rfl (by decide) ?_
  refine GL.g (fun _ k => G.iload 1028 1 rfl rfl k) ?_
  refine GL.g (fun _ k => G.if_ne 1718 1029 rfl (by decide) (fun _ => k) (fun q => absurd q (by decide))) ?_
  refine GL.g (fun _ k => G.goto 1721 1038 rfl (by decide) k) ?_
  refine GL.g (fun _ k => G.sub (lv' := lvL x) [2, 3, 4, 5, 6] rfl k) ?_
  exact k
/-- sign -/
def Op0 (Inv : Bool → HI → HJ → Prop) (b : Bool) (I : HI) (J : HJ) (a1 a2 a3 a4 : Int32) : Prop := ∃ (r : Int32) (I1 : HI) (J1 : HJ) (I2 : HI) (J2 : HJ), F_X11_sign a1 I J = some (r, I1, J1) ∧ F_X12_sign a1 I1 J1 = some (r, I2, J2) ∧ Inv b I2 J2
/-- end -/
def Op1 (Inv : Bool → HI → HJ → Prop) (b : Bool) (I : HI) (J : HJ) (a1 a2 a3 a4 : Int32) : Prop := ∃ (r : Int32) (I1 : HI) (J1 : HJ) (I2 : HI) (J2 : HJ), F_X11_end a1 I J = some (r, I1, J1) ∧ F_X12_end a1 I1 J1 = some (r, I2, J2) ∧ Inv b I2 J2
/-- board -/
def Op2 (Inv : Bool → HI → HJ → Prop) (b : Bool) (I : HI) (J : HJ) (a1 a2 a3 a4 : Int32) : Prop := ∃ (r : Int32) (I1 : HI) (J1 : HJ) (I2 : HI) (J2 : HJ), F_X11_board I J = some (r, I1, J1) ∧ F_X12_board I1 J1 = some (r, I2, J2) ∧ Inv b I2 J2
/-- set -/
def Op3 (Inv : Bool → HI → HJ → Prop) (b : Bool) (I : HI) (J : HJ) (a1 a2 a3 a4 : Int32) : Prop := ∃ (r : Int32) (I1 : HI) (J1 : HJ) (I2 : HI) (J2 : HJ), F_X11_set a1 a2 I J = some (r, I1, J1) ∧ F_X12_set a1 a2 I1 J1 = some (r, I2, J2) ∧ Inv b I2 J2
/-- lamp -/
def Op4 (Inv : Bool → HI → HJ → Prop) (b : Bool) (I : HI) (J : HJ) (a1 a2 a3 a4 : Int32) : Prop := (∃ (w v : Int32) (I2 : HI) (J2 : HJ), F_X11_lamp a1 a2 I J = some (some w) ∧ F_X12_lamp a1 a2 I (uj J 128 0 (Int32.toInt64 w)) = some (v, I2, J2) ∧ F_X12_thrown I2 J2 = some 0 ∧ J2 128 0 = (Int32.toInt64 w) ∧ v = w ∧ Inv b I2 J2) ∨ (∃ (v : Int32) (I2 : HI) (J2 : HJ), F_X11_lamp a1 a2 I J = some none ∧ F_X12_lamp a1 a2 I J = some (v, I2, J2) ∧ F_X12_thrown I2 J2 = some 1 ∧ Inv b I2 J2)
/-- ohms -/
def Op5 (Inv : Bool → HI → HJ → Prop) (b : Bool) (I : HI) (J : HJ) (a1 a2 a3 a4 : Int32) : Prop := ∃ (r : Int32) (I2 : HI) (J2 : HJ), F_X11_ohms a1 I J = some r ∧ F_X12_ohms a1 I J = some (r, I2, J2) ∧ Inv b I2 J2
/-- sheet -/
def Op6 (Inv : Bool → HI → HJ → Prop) (b : Bool) (I : HI) (J : HJ) (a1 a2 a3 a4 : Int32) : Prop := ∃ (r : Int32) (I1 : HI) (J1 : HJ) (I2 : HI) (J2 : HJ), F_X11_sheet a1 a2 a3 a4 I J = some (r, I1, J1) ∧ F_X12_sheet a1 a2 a3 a4 I1 J1 = some (r, I2, J2) ∧ Inv b I2 J2
/-- swap -/
def Op7 (Inv : Bool → HI → HJ → Prop) (b : Bool) (I : HI) (J : HJ) (a1 a2 a3 a4 : Int32) : Prop := ∃ (r : Int32) (I1 : HI) (J1 : HJ) (I2 : HI) (J2 : HJ), F_X11_swap a1 a2 I J = some (r, I1, J1) ∧ F_X12_swap a1 a2 I1 J1 = some (r, I2, J2) ∧ Inv b I2 J2
/-- put -/
def Op8 (Inv : Bool → HI → HJ → Prop) (b : Bool) (I : HI) (J : HJ) (a1 a2 a3 a4 : Int32) : Prop := ∃ (r : Int32) (I1 : HI) (J1 : HJ) (I2 : HI) (J2 : HJ), F_X11_put a1 a2 I J = some (r, I1, J1) ∧ F_X12_put a1 a2 I1 J1 = some (r, I2, J2) ∧ Inv b I2 J2
/-- glows -/
def Op9 (Inv : Bool → HI → HJ → Prop) (b : Bool) (I : HI) (J : HJ) (a1 a2 a3 a4 : Int32) : Prop := ∃ (r : Int64) (I1 : HI) (J1 : HJ) (I2 : HI) (J2 : HJ), F_X11_glows I J = some (r, I1, J1) ∧ F_X12_glows I1 J1 = some (r, I2, J2) ∧ Inv b I2 J2
/-- ghosts -/
def Op10 (Inv : Bool → HI → HJ → Prop) (b : Bool) (I : HI) (J : HJ) (a1 a2 a3 a4 : Int32) : Prop := ∃ (r : Int64) (I1 : HI) (J1 : HJ) (I2 : HI) (J2 : HJ), F_X11_ghosts I J = some (r, I1, J1) ∧ F_X12_ghosts I1 J1 = some (r, I2, J2) ∧ Inv b I2 J2
/-- light -/
def Op11 (Inv : Bool → HI → HJ → Prop) (b : Bool) (I : HI) (J : HJ) (a1 a2 a3 a4 : Int32) : Prop := ∃ (r : Int64) (I1 : HI) (J1 : HJ) (I2 : HI) (J2 : HJ), F_X11_light a1 I J = some (r, I1, J1) ∧ F_X12_light a1 I1 J1 = some (r, I2, J2) ∧ Inv b I2 J2
/-- why -/
def Op12 (Inv : Bool → HI → HJ → Prop) (b : Bool) (I : HI) (J : HJ) (a1 a2 a3 a4 : Int32) : Prop := ∃ (r : Int64) (I1 : HI) (J1 : HJ) (I2 : HI) (J2 : HJ), F_X11_why a1 I J = some (r, I1, J1) ∧ F_X12_why a1 I1 J1 = some (r, I2, J2) ∧ Inv b I2 J2
/-- draws -/
def Op13 (Inv : Bool → HI → HJ → Prop) (b : Bool) (I : HI) (J : HJ) (a1 a2 a3 a4 : Int32) : Prop := ∃ (r : Int64) (I1 : HI) (J1 : HJ) (I2 : HI) (J2 : HJ), F_X11_draws a1 I J = some (r, I1, J1) ∧ F_X12_draws a1 I1 J1 = some (r, I2, J2) ∧ Inv b I2 J2
/-- brightest -/
def Op14 (Inv : Bool → HI → HJ → Prop) (b : Bool) (I : HI) (J : HJ) (a1 a2 a3 a4 : Int32) : Prop := ∃ (r : Int32) (I1 : HI) (J1 : HJ) (I2 : HI) (J2 : HJ), F_X11_brightest I J = some (r, I1, J1) ∧ F_X12_brightest I1 J1 = some (r, I2, J2) ∧ Inv b I2 J2
/-- shows -/
def Op15 (Inv : Bool → HI → HJ → Prop) (b : Bool) (I : HI) (J : HJ) (a1 a2 a3 a4 : Int32) : Prop := ∃ (r : Int32) (I1 : HI) (J1 : HJ) (I2 : HI) (J2 : HJ), F_X11_shows (lgA a1 a2) I J = some (r, I1, J1) ∧ F_X12_shows (lgA a1 a2) I1 J1 = some (r, I2, J2) ∧ Inv b I2 J2
/-- bars -/
def Op16 (Inv : Bool → HI → HJ → Prop) (b : Bool) (I : HI) (J : HJ) (a1 a2 a3 a4 : Int32) : Prop := ∃ (r : Int32) (I1 : HI) (J1 : HJ) (I2 : HI) (J2 : HJ), F_X11_bars (lgA a1 a2) I J = some (r, I1, J1) ∧ F_X12_bars (lgA a1 a2) I1 J1 = some (r, I2, J2) ∧ Inv b I2 J2
/-- most -/
def Op17 (Inv : Bool → HI → HJ → Prop) (b : Bool) (I : HI) (J : HJ) (a1 a2 a3 a4 : Int32) : Prop := ∃ (r : Int32) (I1 : HI) (J1 : HJ) (I2 : HI) (J2 : HJ), F_X11_most I J = some (r, I1, J1) ∧ F_X12_most I1 J1 = some (r, I2, J2) ∧ Inv b I2 J2
/-- sets -/
def Op18 (Inv : Bool → HI → HJ → Prop) (b : Bool) (I : HI) (J : HJ) (a1 a2 a3 a4 : Int32) : Prop := ∃ (r : Int32) (I1 : HI) (J1 : HJ) (I2 : HI) (J2 : HJ), F_X11_sets I J = some (r, I1, J1) ∧ F_X12_sets I1 J1 = some (r, I2, J2) ∧ Inv b I2 J2
/-- fits -/
def Op19 (Inv : Bool → HI → HJ → Prop) (b : Bool) (I : HI) (J : HJ) (a1 a2 a3 a4 : Int32) : Prop := ∃ (r : Int32) (I1 : HI) (J1 : HJ) (I2 : HI) (J2 : HJ), F_X11_fits a1 a2 I J = some (r, I1, J1) ∧ F_X12_fits a1 a2 I1 J1 = some (r, I2, J2) ∧ Inv b I2 J2
/-- alone -/
def Op20 (Inv : Bool → HI → HJ → Prop) (b : Bool) (I : HI) (J : HJ) (a1 a2 a3 a4 : Int32) : Prop := ∃ (r : Int64) (I1 : HI) (J1 : HJ) (I2 : HI) (J2 : HJ), F_X11_alone I J = some (r, I1, J1) ∧ F_X12_alone I1 J1 = some (r, I2, J2) ∧ Inv b I2 J2
/-- twins -/
def Op21 (Inv : Bool → HI → HJ → Prop) (b : Bool) (I : HI) (J : HJ) (a1 a2 a3 a4 : Int32) : Prop := ∃ (r : Int32) (I1 : HI) (J1 : HJ) (I2 : HI) (J2 : HJ), F_X11_twins I J = some (r, I1, J1) ∧ F_X12_twins I1 J1 = some (r, I2, J2) ∧ Inv b I2 J2
/-- range -/
def Op22 (Inv : Bool → HI → HJ → Prop) (b : Bool) (I : HI) (J : HJ) (a1 a2 a3 a4 : Int32) : Prop := ∃ (r : Int32) (I1 : HI) (J1 : HJ) (I2 : HI) (J2 : HJ), F_X11_range a1 a2 I J = some (r, I1, J1) ∧ F_X12_range a1 a2 I1 J1 = some (r, I2, J2) ∧ Inv b I2 J2
/-- picture -/
def Op23 (Inv : Bool → HI → HJ → Prop) (b : Bool) (I : HI) (J : HJ) (a1 a2 a3 a4 : Int32) : Prop := ∃ (r : Int32) (I1 : HI) (J1 : HJ) (I2 : HI) (J2 : HJ), F_X11_picture a1 (lgA a2 a3) I J = some (r, I1, J1) ∧ F_X12_picture a1 (lgA a2 a3) I1 J1 = some (r, I2, J2) ∧ Inv b I2 J2
/-- parted -/
def Op24 (Inv : Bool → HI → HJ → Prop) (b : Bool) (I : HI) (J : HJ) (a1 a2 a3 a4 : Int32) : Prop := ∃ (r : Int32) (I1 : HI) (J1 : HJ) (I2 : HI) (J2 : HJ), F_X11_parted a1 I J = some (r, I1, J1) ∧ F_X12_parted a1 I1 J1 = some (r, I2, J2) ∧ Inv b I2 J2
/-- proof -/
def Op25 (Inv : Bool → HI → HJ → Prop) (b : Bool) (I : HI) (J : HJ) (a1 a2 a3 a4 : Int32) : Prop := ∃ (r : Int32) (I1 : HI) (J1 : HJ) (I2 : HI) (J2 : HJ), F_X11_proof a1 I J = some (r, I1, J1) ∧ F_X12_proof a1 I1 J1 = some (r, I2, J2) ∧ Inv b I2 J2
/-- never -/
def Op26 (Inv : Bool → HI → HJ → Prop) (b : Bool) (I : HI) (J : HJ) (a1 a2 a3 a4 : Int32) : Prop := ∃ (r : Int64) (I1 : HI) (J1 : HJ) (I2 : HI) (J2 : HJ), F_X11_never a1 I J = some (r, I1, J1) ∧ F_X12_never a1 I1 J1 = some (r, I2, J2) ∧ Inv b I2 J2
/-- changes -/
def Op27 (Inv : Bool → HI → HJ → Prop) (b : Bool) (I : HI) (J : HJ) (a1 a2 a3 a4 : Int32) : Prop := ∃ (r : Int32) (I1 : HI) (J1 : HJ) (I2 : HI) (J2 : HJ), F_X11_changes a1 I J = some (r, I1, J1) ∧ F_X12_changes a1 I1 J1 = some (r, I2, J2) ∧ Inv b I2 J2
/-- even -/
def Op28 (Inv : Bool → HI → HJ → Prop) (b : Bool) (I : HI) (J : HJ) (a1 a2 a3 a4 : Int32) : Prop := ∃ (r : Int64) (I1 : HI) (J1 : HJ) (I2 : HI) (J2 : HJ), F_X11_even a1 a2 I J = some (r, I1, J1) ∧ F_X12_even a1 a2 I1 J1 = some (r, I2, J2) ∧ Inv b I2 J2
/-- better -/
def Op29 (Inv : Bool → HI → HJ → Prop) (b : Bool) (I : HI) (J : HJ) (a1 a2 a3 a4 : Int32) : Prop := ∃ (r : Int32) (I1 : HI) (J1 : HJ) (I2 : HI) (J2 : HJ), F_X11_better a1 I J = some (r, I1, J1) ∧ F_X12_better a1 I1 J1 = some (r, I2, J2) ∧ Inv b I2 J2
/-- faults -/
def Op30 (Inv : Bool → HI → HJ → Prop) (b : Bool) (I : HI) (J : HJ) (a1 a2 a3 a4 : Int32) : Prop := ∃ (r : Int32) (I1 : HI) (J1 : HJ) (I2 : HI) (J2 : HJ), F_X11_faults I J = some (r, I1, J1) ∧ F_X12_faults I1 J1 = some (r, I2, J2) ∧ Inv b I2 J2
/-- fault -/
def Op31 (Inv : Bool → HI → HJ → Prop) (b : Bool) (I : HI) (J : HJ) (a1 a2 a3 a4 : Int32) : Prop := (∃ (w v : Int32) (I2 : HI) (J2 : HJ), F_X11_fault a1 a2 I J = some (some w) ∧ F_X12_fault_ a1 a2 I (uj J 128 0 (Int32.toInt64 w)) = some (v, I2, J2) ∧ F_X12_thrown I2 J2 = some 0 ∧ J2 128 0 = (Int32.toInt64 w) ∧ v = w ∧ Inv b I2 J2) ∨ (∃ (v : Int32) (I2 : HI) (J2 : HJ), F_X11_fault a1 a2 I J = some none ∧ F_X12_fault_ a1 a2 I J = some (v, I2, J2) ∧ F_X12_thrown I2 J2 = some 1 ∧ Inv b I2 J2)
/-- would -/
def Op32 (Inv : Bool → HI → HJ → Prop) (b : Bool) (I : HI) (J : HJ) (a1 a2 a3 a4 : Int32) : Prop := ∃ (r : Int64) (I1 : HI) (J1 : HJ) (I2 : HI) (J2 : HJ), F_X11_would a1 a2 a3 I J = some (r, I1, J1) ∧ F_X12_would a1 a2 a3 I1 J1 = some (r, I2, J2) ∧ Inv b I2 J2
/-- tells -/
def Op33 (Inv : Bool → HI → HJ → Prop) (b : Bool) (I : HI) (J : HJ) (a1 a2 a3 a4 : Int32) : Prop := ∃ (r : Int32) (I1 : HI) (J1 : HJ) (I2 : HI) (J2 : HJ), F_X11_tells a1 I J = some (r, I1, J1) ∧ F_X12_tells a1 I1 J1 = some (r, I2, J2) ∧ Inv b I2 J2
/-- hidden -/
def Op34 (Inv : Bool → HI → HJ → Prop) (b : Bool) (I : HI) (J : HJ) (a1 a2 a3 a4 : Int32) : Prop := ∃ (r : Int32) (I1 : HI) (J1 : HJ) (I2 : HI) (J2 : HJ), F_X11_hidden I J = some (r, I1, J1) ∧ F_X12_hidden I1 J1 = some (r, I2, J2) ∧ Inv b I2 J2
/-- alike -/
def Op35 (Inv : Bool → HI → HJ → Prop) (b : Bool) (I : HI) (J : HJ) (a1 a2 a3 a4 : Int32) : Prop := ∃ (r : Int32) (I1 : HI) (J1 : HJ) (I2 : HI) (J2 : HJ), F_X11_alike a1 a2 I J = some (r, I1, J1) ∧ F_X12_alike a1 a2 I1 J1 = some (r, I2, J2) ∧ Inv b I2 J2
/-- seen -/
def Op36 (Inv : Bool → HI → HJ → Prop) (b : Bool) (I : HI) (J : HJ) (a1 a2 a3 a4 : Int32) : Prop := ∃ (r : Int32) (I1 : HI) (J1 : HJ) (I2 : HI) (J2 : HJ), F_X11_seen a1 a2 (lgA a3 a4) I J = some (r, I1, J1) ∧ F_X12_seen a1 a2 (lgA a3 a4) I1 J1 = some (r, I2, J2) ∧ Inv b I2 J2
/-- forget -/
def Op37 (Inv : Bool → HI → HJ → Prop) (b : Bool) (I : HI) (J : HJ) (a1 a2 a3 a4 : Int32) : Prop := ∃ (r : Int32) (I1 : HI) (J1 : HJ) (I2 : HI) (J2 : HJ), F_X11_forget I J = some (r, I1, J1) ∧ F_X12_forget I1 J1 = some (r, I2, J2) ∧ Inv b I2 J2
/-- which -/
def Op38 (Inv : Bool → HI → HJ → Prop) (b : Bool) (I : HI) (J : HJ) (a1 a2 a3 a4 : Int32) : Prop := ∃ (r : Int32) (I1 : HI) (J1 : HJ) (I2 : HI) (J2 : HJ), F_X11_which I J = some (r, I1, J1) ∧ F_X12_which I1 J1 = some (r, I2, J2) ∧ Inv b I2 J2
/-- judge -/
def Op39 (Inv : Bool → HI → HJ → Prop) (b : Bool) (I : HI) (J : HJ) (a1 a2 a3 a4 : Int32) : Prop := ∃ (r : Int32) (I1 : HI) (J1 : HJ) (I2 : HI) (J2 : HJ), F_X11_judge a1 I J = some (r, I1, J1) ∧ F_X12_judge a1 I1 J1 = some (r, I2, J2) ∧ Inv b I2 J2
/-- next -/
def Op40 (Inv : Bool → HI → HJ → Prop) (b : Bool) (I : HI) (J : HJ) (a1 a2 a3 a4 : Int32) : Prop := ∃ (r : Int32) (I1 : HI) (J1 : HJ) (I2 : HI) (J2 : HJ), F_X11_next I J = some (r, I1, J1) ∧ F_X12_next I1 J1 = some (r, I2, J2) ∧ Inv b I2 J2
/-- test -/
def Op41 (Inv : Bool → HI → HJ → Prop) (b : Bool) (I : HI) (J : HJ) (a1 a2 a3 a4 : Int32) : Prop := ∃ (r : Int32) (I1 : HI) (J1 : HJ) (I2 : HI) (J2 : HJ), F_X11_test a1 a2 I J = some (r, I1, J1) ∧ F_X12_test a1 a2 I1 J1 = some (r, I2, J2) ∧ Inv b I2 J2
/-- tree -/
def Op42 (Inv : Bool → HI → HJ → Prop) (b : Bool) (I : HI) (J : HJ) (a1 a2 a3 a4 : Int32) : Prop := (b = true → ∃ (r : Int32) (I1 : HI) (J1 : HJ) (I2 : HI) (J2 : HJ), F_X11_tree I J = some (r, I1, J1) ∧ F_X12_tree I1 J1 = some (r, I2, J2) ∧ Inv true I2 J2) ∧ (b = false → ∃ (b' : Bool) (r : Int32) (I1 : HI) (J1 : HJ) (I2 : HI) (J2 : HJ), F_X11_treef I J = some (b', r, I1, J1) ∧ F_X12_tree I1 J1 = some (r, I2, J2) ∧ Inv b' I2 J2)
/-- path -/
def Op43 (Inv : Bool → HI → HJ → Prop) (b : Bool) (I : HI) (J : HJ) (a1 a2 a3 a4 : Int32) : Prop := (b = true → ∃ (r : Int32) (I1 : HI) (J1 : HJ) (I2 : HI) (J2 : HJ), F_X11_path a1 I J = some (r, I1, J1) ∧ F_X12_path a1 I1 J1 = some (r, I2, J2) ∧ Inv true I2 J2) ∧ (b = false → ∃ (b' : Bool) (r : Int32) (I1 : HI) (J1 : HJ) (I2 : HI) (J2 : HJ), F_X11_pathf a1 I J = some (b', r, I1, J1) ∧ F_X12_path a1 I1 J1 = some (r, I2, J2) ∧ Inv b' I2 J2)
/-- keep -/
def Op44 (Inv : Bool → HI → HJ → Prop) (b : Bool) (I : HI) (J : HJ) (a1 a2 a3 a4 : Int32) : Prop := ∃ (r : Int32) (I1 : HI) (J1 : HJ) (I2 : HI) (J2 : HJ), F_X11_keep a1 I J = some (r, I1, J1) ∧ F_X12_keep a1 I1 J1 = some (r, I2, J2) ∧ Inv b I2 J2
/-- again -/
def Op45 (Inv : Bool → HI → HJ → Prop) (b : Bool) (I : HI) (J : HJ) (a1 a2 a3 a4 : Int32) : Prop := ∃ (r : Int32) (I1 : HI) (J1 : HJ) (I2 : HI) (J2 : HJ), F_X11_again a1 I J = some (r, I1, J1) ∧ F_X12_again a1 I1 J1 = some (r, I2, J2) ∧ Inv b I2 J2
/-- count -/
def Op46 (Inv : Bool → HI → HJ → Prop) (b : Bool) (I : HI) (J : HJ) (a1 a2 a3 a4 : Int32) : Prop := ∃ (r : Int32) (I2 : HI) (J2 : HJ), F_X11_count a1 I J = some r ∧ F_X12_count a1 I J = some (r, I2, J2) ∧ Inv b I2 J2
/-- row -/
def Op47 (Inv : Bool → HI → HJ → Prop) (b : Bool) (I : HI) (J : HJ) (a1 a2 a3 a4 : Int32) : Prop := (∃ (w v : Int64) (I2 : HI) (J2 : HJ), F_X11_row a1 I J = some (some w) ∧ F_X12_row a1 I (uj J 128 0 w) = some (v, I2, J2) ∧ F_X12_thrown I2 J2 = some 0 ∧ J2 128 0 = w ∧ v = w ∧ Inv b I2 J2) ∨ (∃ (v : Int64) (I2 : HI) (J2 : HJ), F_X11_row a1 I J = some none ∧ F_X12_row a1 I J = some (v, I2, J2) ∧ F_X12_thrown I2 J2 = some 1 ∧ Inv b I2 J2)
/-- what is owed of the computations -/
def OpAll (Inv : Nat → Bool → HI → HJ → Prop) : Prop := ∀ (n : Nat) (b : Bool) (I : HI) (J : HJ) (a1 a2 a3 a4 : Int32), Inv (n + 1) b I J → Op0 (Inv n) b I J a1 a2 a3 a4 ∧ Op1 (Inv n) b I J a1 a2 a3 a4 ∧ Op2 (Inv n) b I J a1 a2 a3 a4 ∧ Op3 (Inv n) b I J a1 a2 a3 a4 ∧ Op4 (Inv n) b I J a1 a2 a3 a4 ∧ Op5 (Inv n) b I J a1 a2 a3 a4 ∧ Op6 (Inv n) b I J a1 a2 a3 a4 ∧ Op7 (Inv n) b I J a1 a2 a3 a4 ∧ Op8 (Inv n) b I J a1 a2 a3 a4 ∧ Op9 (Inv n) b I J a1 a2 a3 a4 ∧ Op10 (Inv n) b I J a1 a2 a3 a4 ∧ Op11 (Inv n) b I J a1 a2 a3 a4 ∧ Op12 (Inv n) b I J a1 a2 a3 a4 ∧ Op13 (Inv n) b I J a1 a2 a3 a4 ∧ Op14 (Inv n) b I J a1 a2 a3 a4 ∧ Op15 (Inv n) b I J a1 a2 a3 a4 ∧ Op16 (Inv n) b I J a1 a2 a3 a4 ∧ Op17 (Inv n) b I J a1 a2 a3 a4 ∧ Op18 (Inv n) b I J a1 a2 a3 a4 ∧ Op19 (Inv n) b I J a1 a2 a3 a4 ∧ Op20 (Inv n) b I J a1 a2 a3 a4 ∧ Op21 (Inv n) b I J a1 a2 a3 a4 ∧ Op22 (Inv n) b I J a1 a2 a3 a4 ∧ Op23 (Inv n) b I J a1 a2 a3 a4 ∧ Op24 (Inv n) b I J a1 a2 a3 a4 ∧ Op25 (Inv n) b I J a1 a2 a3 a4 ∧ Op26 (Inv n) b I J a1 a2 a3 a4 ∧ Op27 (Inv n) b I J a1 a2 a3 a4 ∧ Op28 (Inv n) b I J a1 a2 a3 a4 ∧ Op29 (Inv n) b I J a1 a2 a3 a4 ∧ Op30 (Inv n) b I J a1 a2 a3 a4 ∧ Op31 (Inv n) b I J a1 a2 a3 a4 ∧ Op32 (Inv n) b I J a1 a2 a3 a4 ∧ Op33 (Inv n) b I J a1 a2 a3 a4 ∧ Op34 (Inv n) b I J a1 a2 a3 a4 ∧ Op35 (Inv n) b I J a1 a2 a3 a4 ∧ Op36 (Inv n) b I J a1 a2 a3 a4 ∧ Op37 (Inv n) b I J a1 a2 a3 a4 ∧ Op38 (Inv n) b I J a1 a2 a3 a4 ∧ Op39 (Inv n) b I J a1 a2 a3 a4 ∧ Op40 (Inv n) b I J a1 a2 a3 a4 ∧ Op41 (Inv n) b I J a1 a2 a3 a4 ∧ Op42 (Inv n) b I J a1 a2 a3 a4 ∧ Op43 (Inv n) b I J a1 a2 a3 a4 ∧ Op44 (Inv n) b I J a1 a2 a3 a4 ∧ Op45 (Inv n) b I J a1 a2 a3 a4 ∧ Op46 (Inv n) b I J a1 a2 a3 a4 ∧ Op47 (Inv n) b I J a1 a2 a3 a4

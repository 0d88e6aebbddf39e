/-! the law's switch and its loop -/
set_option maxRecDepth 100000 in
theorem lw_c0 {Inv : Nat → Bool → HI → HJ → Prop} (hop : OpAll Inv) {L : Nat} {xs : Nat → Int32} {E : Ex} {cs : Nat × Nat} (n : Nat) (b : Bool) (I : HI) (J : HJ) (hI : Inv (n + 1) b I J) (x v : Int32) (hcs : cs.1 + 2 ≤ 399528 ∧ cs.2 + 59392 ≤ 7902896) (h1 : vp_in (x + (1 : Int32)) L) (h2 : vp_in (x + (2 : Int32)) L) (h3 : vp_in (x + (3 : Int32)) L) (h4 : vp_in (x + (4 : Int32)) L)
    (hk : ∀ (cs' : Nat × Nat) (b' : Bool) (I' : HI) (J' : HJ), cs'.1 ≤ cs.1 + 2 → cs'.2 ≤ cs.2 + 59392 → Inv n b' I' J' → GL L xs E cs' 1721 (lvL x) [] (zs b', I', J')) (c0 : v = 0) : GL L xs E cs 39 (lvL x) [.int v] (zs b, I, J) := by
  refine GL.g (fun _ k => G.tswIn 244 24 rfl (by rw [c0]; decide) (by rw [c0]; decide) (by rw [c0]; rfl) (by decide) k) ?_
  have hO := (hop n b I J (xs (x + (1 : Int32)).toNatClampNeg) (xs (x + (2 : Int32)).toNatClampNeg) (xs (x + (3 : Int32)).toNatClampNeg) (xs (x + (4 : Int32)).toNatClampNeg) hI).1
  obtain ⟨r, I1, J1, I2, J2, hX, hM, hI2⟩ := hO
  exact lc_0 b x _ _ _ _ I J hcs h1 h2 h3 h4 rfl rfl rfl rfl r I1 J1 I2 J2 hX hM (hk _ _ _ _ (by omega) (by omega) hI2)
set_option maxRecDepth 100000 in
theorem lw_c1 {Inv : Nat → Bool → HI → HJ → Prop} (hop : OpAll Inv) {L : Nat} {xs : Nat → Int32} {E : Ex} {cs : Nat × Nat} (n : Nat) (b : Bool) (I : HI) (J : HJ) (hI : Inv (n + 1) b I J) (x v : Int32) (hcs : cs.1 + 2 ≤ 399528 ∧ cs.2 + 59392 ≤ 7902896) (h1 : vp_in (x + (1 : Int32)) L) (h2 : vp_in (x + (2 : Int32)) L) (h3 : vp_in (x + (3 : Int32)) L) (h4 : vp_in (x + (4 : Int32)) L)
    (hk : ∀ (cs' : Nat × Nat) (b' : Bool) (I' : HI) (J' : HJ), cs'.1 ≤ cs.1 + 2 → cs'.2 ≤ cs.2 + 59392 → Inv n b' I' J' → GL L xs E cs' 1721 (lvL x) [] (zs b', I', J')) (c1 : v = 1) : GL L xs E cs 39 (lvL x) [.int v] (zs b, I, J) := by
  refine GL.g (fun _ k => G.tswIn 269 24 rfl (by rw [c1]; decide) (by rw [c1]; decide) (by rw [c1]; rfl) (by decide) k) ?_
  have hO := (hop n b I J (xs (x + (1 : Int32)).toNatClampNeg) (xs (x + (2 : Int32)).toNatClampNeg) (xs (x + (3 : Int32)).toNatClampNeg) (xs (x + (4 : Int32)).toNatClampNeg) hI).2.1
  obtain ⟨r, I1, J1, I2, J2, hX, hM, hI2⟩ := hO
  exact lc_1 b x _ _ _ _ I J hcs h1 h2 h3 h4 rfl rfl rfl rfl r I1 J1 I2 J2 hX hM (hk _ _ _ _ (by omega) (by omega) hI2)
set_option maxRecDepth 100000 in
theorem lw_c2 {Inv : Nat → Bool → HI → HJ → Prop} (hop : OpAll Inv) {L : Nat} {xs : Nat → Int32} {E : Ex} {cs : Nat × Nat} (n : Nat) (b : Bool) (I : HI) (J : HJ) (hI : Inv (n + 1) b I J) (x v : Int32) (hcs : cs.1 + 2 ≤ 399528 ∧ cs.2 + 59392 ≤ 7902896) (h1 : vp_in (x + (1 : Int32)) L) (h2 : vp_in (x + (2 : Int32)) L) (h3 : vp_in (x + (3 : Int32)) L) (h4 : vp_in (x + (4 : Int32)) L)
    (hk : ∀ (cs' : Nat × Nat) (b' : Bool) (I' : HI) (J' : HJ), cs'.1 ≤ cs.1 + 2 → cs'.2 ≤ cs.2 + 59392 → Inv n b' I' J' → GL L xs E cs' 1721 (lvL x) [] (zs b', I', J')) (c2 : v = 2) : GL L xs E cs 39 (lvL x) [.int v] (zs b, I, J) := by
  refine GL.g (fun _ k => G.tswIn 294 24 rfl (by rw [c2]; decide) (by rw [c2]; decide) (by rw [c2]; rfl) (by decide) k) ?_
  have hO := (hop n b I J (xs (x + (1 : Int32)).toNatClampNeg) (xs (x + (2 : Int32)).toNatClampNeg) (xs (x + (3 : Int32)).toNatClampNeg) (xs (x + (4 : Int32)).toNatClampNeg) hI).2.2.1
  obtain ⟨r, I1, J1, I2, J2, hX, hM, hI2⟩ := hO
  exact lc_2 b x _ _ _ _ I J hcs h1 h2 h3 h4 rfl rfl rfl rfl r I1 J1 I2 J2 hX hM (hk _ _ _ _ (by omega) (by omega) hI2)
set_option maxRecDepth 100000 in
theorem lw_c3 {Inv : Nat → Bool → HI → HJ → Prop} (hop : OpAll Inv) {L : Nat} {xs : Nat → Int32} {E : Ex} {cs : Nat × Nat} (n : Nat) (b : Bool) (I : HI) (J : HJ) (hI : Inv (n + 1) b I J) (x v : Int32) (hcs : cs.1 + 2 ≤ 399528 ∧ cs.2 + 59392 ≤ 7902896) (h1 : vp_in (x + (1 : Int32)) L) (h2 : vp_in (x + (2 : Int32)) L) (h3 : vp_in (x + (3 : Int32)) L) (h4 : vp_in (x + (4 : Int32)) L)
    (hk : ∀ (cs' : Nat × Nat) (b' : Bool) (I' : HI) (J' : HJ), cs'.1 ≤ cs.1 + 2 → cs'.2 ≤ cs.2 + 59392 → Inv n b' I' J' → GL L xs E cs' 1721 (lvL x) [] (zs b', I', J')) (c3 : v = 3) : GL L xs E cs 39 (lvL x) [.int v] (zs b, I, J) := by
  refine GL.g (fun _ k => G.tswIn 307 24 rfl (by rw [c3]; decide) (by rw [c3]; decide) (by rw [c3]; rfl) (by decide) k) ?_
  have hO := (hop n b I J (xs (x + (1 : Int32)).toNatClampNeg) (xs (x + (2 : Int32)).toNatClampNeg) (xs (x + (3 : Int32)).toNatClampNeg) (xs (x + (4 : Int32)).toNatClampNeg) hI).2.2.2.1
  obtain ⟨r, I1, J1, I2, J2, hX, hM, hI2⟩ := hO
  exact lc_3 b x _ _ _ _ I J hcs h1 h2 h3 h4 rfl rfl rfl rfl r I1 J1 I2 J2 hX hM (hk _ _ _ _ (by omega) (by omega) hI2)
set_option maxRecDepth 100000 in
theorem lw_c4 {Inv : Nat → Bool → HI → HJ → Prop} (hop : OpAll Inv) {L : Nat} {xs : Nat → Int32} {E : Ex} {cs : Nat × Nat} (n : Nat) (b : Bool) (I : HI) (J : HJ) (hI : Inv (n + 1) b I J) (x v : Int32) (hcs : cs.1 + 2 ≤ 399528 ∧ cs.2 + 59392 ≤ 7902896) (h1 : vp_in (x + (1 : Int32)) L) (h2 : vp_in (x + (2 : Int32)) L) (h3 : vp_in (x + (3 : Int32)) L) (h4 : vp_in (x + (4 : Int32)) L)
    (hk : ∀ (cs' : Nat × Nat) (b' : Bool) (I' : HI) (J' : HJ), cs'.1 ≤ cs.1 + 2 → cs'.2 ≤ cs.2 + 59392 → Inv n b' I' J' → GL L xs E cs' 1721 (lvL x) [] (zs b', I', J')) (c4 : v = 4) : GL L xs E cs 39 (lvL x) [.int v] (zs b, I, J) := by
  refine GL.g (fun _ k => G.tswIn 344 24 rfl (by rw [c4]; decide) (by rw [c4]; decide) (by rw [c4]; rfl) (by decide) k) ?_
  have hO := (hop n b I J (xs (x + (1 : Int32)).toNatClampNeg) (xs (x + (2 : Int32)).toNatClampNeg) (xs (x + (3 : Int32)).toNatClampNeg) (xs (x + (4 : Int32)).toNatClampNeg) hI).2.2.2.2.1
  rcases hO with ⟨w, v9, I2, J2, hX, hM, hT, hJ, hv, hI2⟩ | ⟨v9, I2, J2, hX, hM, hT, hI2⟩
  · exact lc_4some b x _ _ _ _ I J hcs h1 h2 h3 h4 rfl rfl rfl rfl w v9 I2 J2 hX hM hT hJ hv (hk _ _ _ _ (by show cs.1 + 1 ≤ _; omega) (by show cs.2 + 6 ≤ _; omega) hI2)
  · exact lc_4none b x _ _ _ _ I J hcs h1 h2 h3 h4 rfl rfl rfl rfl v9 I2 J2 hX hM hT (hk _ _ _ _ (by show cs.1 + 1 ≤ _; omega) (by show cs.2 + 6 ≤ _; omega) hI2)
set_option maxRecDepth 100000 in
theorem lw_c5 {Inv : Nat → Bool → HI → HJ → Prop} (hop : OpAll Inv) {L : Nat} {xs : Nat → Int32} {E : Ex} {cs : Nat × Nat} (n : Nat) (b : Bool) (I : HI) (J : HJ) (hI : Inv (n + 1) b I J) (x v : Int32) (hcs : cs.1 + 2 ≤ 399528 ∧ cs.2 + 59392 ≤ 7902896) (h1 : vp_in (x + (1 : Int32)) L) (h2 : vp_in (x + (2 : Int32)) L) (h3 : vp_in (x + (3 : Int32)) L) (h4 : vp_in (x + (4 : Int32)) L)
    (hk : ∀ (cs' : Nat × Nat) (b' : Bool) (I' : HI) (J' : HJ), cs'.1 ≤ cs.1 + 2 → cs'.2 ≤ cs.2 + 59392 → Inv n b' I' J' → GL L xs E cs' 1721 (lvL x) [] (zs b', I', J')) (c5 : v = 5) : GL L xs E cs 39 (lvL x) [.int v] (zs b, I, J) := by
  refine GL.g (fun _ k => G.tswIn 412 24 rfl (by rw [c5]; decide) (by rw [c5]; decide) (by rw [c5]; rfl) (by decide) k) ?_
  have hO := (hop n b I J (xs (x + (1 : Int32)).toNatClampNeg) (xs (x + (2 : Int32)).toNatClampNeg) (xs (x + (3 : Int32)).toNatClampNeg) (xs (x + (4 : Int32)).toNatClampNeg) hI).2.2.2.2.2.1
  obtain ⟨r, I2, J2, hX, hM, hI2⟩ := hO
  exact lc_5 b x _ _ _ _ I J hcs h1 h2 h3 h4 rfl rfl rfl rfl r I2 J2 hX hM (hk _ _ _ _ (by omega) (by omega) hI2)
set_option maxRecDepth 100000 in
theorem lw_c6 {Inv : Nat → Bool → HI → HJ → Prop} (hop : OpAll Inv) {L : Nat} {xs : Nat → Int32} {E : Ex} {cs : Nat × Nat} (n : Nat) (b : Bool) (I : HI) (J : HJ) (hI : Inv (n + 1) b I J) (x v : Int32) (hcs : cs.1 + 2 ≤ 399528 ∧ cs.2 + 59392 ≤ 7902896) (h1 : vp_in (x + (1 : Int32)) L) (h2 : vp_in (x + (2 : Int32)) L) (h3 : vp_in (x + (3 : Int32)) L) (h4 : vp_in (x + (4 : Int32)) L)
    (hk : ∀ (cs' : Nat × Nat) (b' : Bool) (I' : HI) (J' : HJ), cs'.1 ≤ cs.1 + 2 → cs'.2 ≤ cs.2 + 59392 → Inv n b' I' J' → GL L xs E cs' 1721 (lvL x) [] (zs b', I', J')) (c6 : v = 6) : GL L xs E cs 39 (lvL x) [.int v] (zs b, I, J) := by
  refine GL.g (fun _ k => G.tswIn 437 24 rfl (by rw [c6]; decide) (by rw [c6]; decide) (by rw [c6]; rfl) (by decide) k) ?_
  have hO := (hop n b I J (xs (x + (1 : Int32)).toNatClampNeg) (xs (x + (2 : Int32)).toNatClampNeg) (xs (x + (3 : Int32)).toNatClampNeg) (xs (x + (4 : Int32)).toNatClampNeg) hI).2.2.2.2.2.2.1
  obtain ⟨r, I1, J1, I2, J2, hX, hM, hI2⟩ := hO
  exact lc_6 b x _ _ _ _ I J hcs h1 h2 h3 h4 rfl rfl rfl rfl r I1 J1 I2 J2 hX hM (hk _ _ _ _ (by omega) (by omega) hI2)
set_option maxRecDepth 100000 in
theorem lw_c7 {Inv : Nat → Bool → HI → HJ → Prop} (hop : OpAll Inv) {L : Nat} {xs : Nat → Int32} {E : Ex} {cs : Nat × Nat} (n : Nat) (b : Bool) (I : HI) (J : HJ) (hI : Inv (n + 1) b I J) (x v : Int32) (hcs : cs.1 + 2 ≤ 399528 ∧ cs.2 + 59392 ≤ 7902896) (h1 : vp_in (x + (1 : Int32)) L) (h2 : vp_in (x + (2 : Int32)) L) (h3 : vp_in (x + (3 : Int32)) L) (h4 : vp_in (x + (4 : Int32)) L)
    (hk : ∀ (cs' : Nat × Nat) (b' : Bool) (I' : HI) (J' : HJ), cs'.1 ≤ cs.1 + 2 → cs'.2 ≤ cs.2 + 59392 → Inv n b' I' J' → GL L xs E cs' 1721 (lvL x) [] (zs b', I', J')) (c7 : v = 7) : GL L xs E cs 39 (lvL x) [.int v] (zs b, I, J) := by
  refine GL.g (fun _ k => G.tswIn 498 24 rfl (by rw [c7]; decide) (by rw [c7]; decide) (by rw [c7]; rfl) (by decide) k) ?_
  have hO := (hop n b I J (xs (x + (1 : Int32)).toNatClampNeg) (xs (x + (2 : Int32)).toNatClampNeg) (xs (x + (3 : Int32)).toNatClampNeg) (xs (x + (4 : Int32)).toNatClampNeg) hI).2.2.2.2.2.2.2.1
  obtain ⟨r, I1, J1, I2, J2, hX, hM, hI2⟩ := hO
  exact lc_7 b x _ _ _ _ I J hcs h1 h2 h3 h4 rfl rfl rfl rfl r I1 J1 I2 J2 hX hM (hk _ _ _ _ (by omega) (by omega) hI2)
set_option maxRecDepth 100000 in
theorem lw_c8 {Inv : Nat → Bool → HI → HJ → Prop} (hop : OpAll Inv) {L : Nat} {xs : Nat → Int32} {E : Ex} {cs : Nat × Nat} (n : Nat) (b : Bool) (I : HI) (J : HJ) (hI : Inv (n + 1) b I J) (x v : Int32) (hcs : cs.1 + 2 ≤ 399528 ∧ cs.2 + 59392 ≤ 7902896) (h1 : vp_in (x + (1 : Int32)) L) (h2 : vp_in (x + (2 : Int32)) L) (h3 : vp_in (x + (3 : Int32)) L) (h4 : vp_in (x + (4 : Int32)) L)
    (hk : ∀ (cs' : Nat × Nat) (b' : Bool) (I' : HI) (J' : HJ), cs'.1 ≤ cs.1 + 2 → cs'.2 ≤ cs.2 + 59392 → Inv n b' I' J' → GL L xs E cs' 1721 (lvL x) [] (zs b', I', J')) (c8 : v = 8) : GL L xs E cs 39 (lvL x) [.int v] (zs b, I, J) := by
  refine GL.g (fun _ k => G.tswIn 535 24 rfl (by rw [c8]; decide) (by rw [c8]; decide) (by rw [c8]; rfl) (by decide) k) ?_
  have hO := (hop n b I J (xs (x + (1 : Int32)).toNatClampNeg) (xs (x + (2 : Int32)).toNatClampNeg) (xs (x + (3 : Int32)).toNatClampNeg) (xs (x + (4 : Int32)).toNatClampNeg) hI).2.2.2.2.2.2.2.2.1
  obtain ⟨r, I1, J1, I2, J2, hX, hM, hI2⟩ := hO
  exact lc_8 b x _ _ _ _ I J hcs h1 h2 h3 h4 rfl rfl rfl rfl r I1 J1 I2 J2 hX hM (hk _ _ _ _ (by omega) (by omega) hI2)
set_option maxRecDepth 100000 in
theorem lw_c9 {Inv : Nat → Bool → HI → HJ → Prop} (hop : OpAll Inv) {L : Nat} {xs : Nat → Int32} {E : Ex} {cs : Nat × Nat} (n : Nat) (b : Bool) (I : HI) (J : HJ) (hI : Inv (n + 1) b I J) (x v : Int32) (hcs : cs.1 + 2 ≤ 399528 ∧ cs.2 + 59392 ≤ 7902896) (h1 : vp_in (x + (1 : Int32)) L) (h2 : vp_in (x + (2 : Int32)) L) (h3 : vp_in (x + (3 : Int32)) L) (h4 : vp_in (x + (4 : Int32)) L)
    (hk : ∀ (cs' : Nat × Nat) (b' : Bool) (I' : HI) (J' : HJ), cs'.1 ≤ cs.1 + 2 → cs'.2 ≤ cs.2 + 59392 → Inv n b' I' J' → GL L xs E cs' 1721 (lvL x) [] (zs b', I', J')) (c9 : v = 9) : GL L xs E cs 39 (lvL x) [.int v] (zs b, I, J) := by
  refine GL.g (fun _ k => G.tswIn 572 24 rfl (by rw [c9]; decide) (by rw [c9]; decide) (by rw [c9]; rfl) (by decide) k) ?_
  have hO := (hop n b I J (xs (x + (1 : Int32)).toNatClampNeg) (xs (x + (2 : Int32)).toNatClampNeg) (xs (x + (3 : Int32)).toNatClampNeg) (xs (x + (4 : Int32)).toNatClampNeg) hI).2.2.2.2.2.2.2.2.2.1
  obtain ⟨r, I1, J1, I2, J2, hX, hM, hI2⟩ := hO
  exact lc_9 b x _ _ _ _ I J hcs h1 h2 h3 h4 rfl rfl rfl rfl r I1 J1 I2 J2 hX hM (hk _ _ _ _ (by omega) (by omega) hI2)
set_option maxRecDepth 100000 in
theorem lw_c10 {Inv : Nat → Bool → HI → HJ → Prop} (hop : OpAll Inv) {L : Nat} {xs : Nat → Int32} {E : Ex} {cs : Nat × Nat} (n : Nat) (b : Bool) (I : HI) (J : HJ) (hI : Inv (n + 1) b I J) (x v : Int32) (hcs : cs.1 + 2 ≤ 399528 ∧ cs.2 + 59392 ≤ 7902896) (h1 : vp_in (x + (1 : Int32)) L) (h2 : vp_in (x + (2 : Int32)) L) (h3 : vp_in (x + (3 : Int32)) L) (h4 : vp_in (x + (4 : Int32)) L)
    (hk : ∀ (cs' : Nat × Nat) (b' : Bool) (I' : HI) (J' : HJ), cs'.1 ≤ cs.1 + 2 → cs'.2 ≤ cs.2 + 59392 → Inv n b' I' J' → GL L xs E cs' 1721 (lvL x) [] (zs b', I', J')) (c10 : v = 10) : GL L xs E cs 39 (lvL x) [.int v] (zs b, I, J) := by
  refine GL.g (fun _ k => G.tswIn 586 24 rfl (by rw [c10]; decide) (by rw [c10]; decide) (by rw [c10]; rfl) (by decide) k) ?_
  have hO := (hop n b I J (xs (x + (1 : Int32)).toNatClampNeg) (xs (x + (2 : Int32)).toNatClampNeg) (xs (x + (3 : Int32)).toNatClampNeg) (xs (x + (4 : Int32)).toNatClampNeg) hI).2.2.2.2.2.2.2.2.2.2.1
  obtain ⟨r, I1, J1, I2, J2, hX, hM, hI2⟩ := hO
  exact lc_10 b x _ _ _ _ I J hcs h1 h2 h3 h4 rfl rfl rfl rfl r I1 J1 I2 J2 hX hM (hk _ _ _ _ (by omega) (by omega) hI2)
set_option maxRecDepth 100000 in
theorem lw_c11 {Inv : Nat → Bool → HI → HJ → Prop} (hop : OpAll Inv) {L : Nat} {xs : Nat → Int32} {E : Ex} {cs : Nat × Nat} (n : Nat) (b : Bool) (I : HI) (J : HJ) (hI : Inv (n + 1) b I J) (x v : Int32) (hcs : cs.1 + 2 ≤ 399528 ∧ cs.2 + 59392 ≤ 7902896) (h1 : vp_in (x + (1 : Int32)) L) (h2 : vp_in (x + (2 : Int32)) L) (h3 : vp_in (x + (3 : Int32)) L) (h4 : vp_in (x + (4 : Int32)) L)
    (hk : ∀ (cs' : Nat × Nat) (b' : Bool) (I' : HI) (J' : HJ), cs'.1 ≤ cs.1 + 2 → cs'.2 ≤ cs.2 + 59392 → Inv n b' I' J' → GL L xs E cs' 1721 (lvL x) [] (zs b', I', J')) (c11 : v = 11) : GL L xs E cs 39 (lvL x) [.int v] (zs b, I, J) := by
  refine GL.g (fun _ k => G.tswIn 600 24 rfl (by rw [c11]; decide) (by rw [c11]; decide) (by rw [c11]; rfl) (by decide) k) ?_
  have hO := (hop n b I J (xs (x + (1 : Int32)).toNatClampNeg) (xs (x + (2 : Int32)).toNatClampNeg) (xs (x + (3 : Int32)).toNatClampNeg) (xs (x + (4 : Int32)).toNatClampNeg) hI).2.2.2.2.2.2.2.2.2.2.2.1
  obtain ⟨r, I1, J1, I2, J2, hX, hM, hI2⟩ := hO
  exact lc_11 b x _ _ _ _ I J hcs h1 h2 h3 h4 rfl rfl rfl rfl r I1 J1 I2 J2 hX hM (hk _ _ _ _ (by omega) (by omega) hI2)
set_option maxRecDepth 100000 in
theorem lw_c12 {Inv : Nat → Bool → HI → HJ → Prop} (hop : OpAll Inv) {L : Nat} {xs : Nat → Int32} {E : Ex} {cs : Nat × Nat} (n : Nat) (b : Bool) (I : HI) (J : HJ) (hI : Inv (n + 1) b I J) (x v : Int32) (hcs : cs.1 + 2 ≤ 399528 ∧ cs.2 + 59392 ≤ 7902896) (h1 : vp_in (x + (1 : Int32)) L) (h2 : vp_in (x + (2 : Int32)) L) (h3 : vp_in (x + (3 : Int32)) L) (h4 : vp_in (x + (4 : Int32)) L)
    (hk : ∀ (cs' : Nat × Nat) (b' : Bool) (I' : HI) (J' : HJ), cs'.1 ≤ cs.1 + 2 → cs'.2 ≤ cs.2 + 59392 → Inv n b' I' J' → GL L xs E cs' 1721 (lvL x) [] (zs b', I', J')) (c12 : v = 12) : GL L xs E cs 39 (lvL x) [.int v] (zs b, I, J) := by
  refine GL.g (fun _ k => G.tswIn 626 24 rfl (by rw [c12]; decide) (by rw [c12]; decide) (by rw [c12]; rfl) (by decide) k) ?_
  have hO := (hop n b I J (xs (x + (1 : Int32)).toNatClampNeg) (xs (x + (2 : Int32)).toNatClampNeg) (xs (x + (3 : Int32)).toNatClampNeg) (xs (x + (4 : Int32)).toNatClampNeg) hI).2.2.2.2.2.2.2.2.2.2.2.2.1
  obtain ⟨r, I1, J1, I2, J2, hX, hM, hI2⟩ := hO
  exact lc_12 b x _ _ _ _ I J hcs h1 h2 h3 h4 rfl rfl rfl rfl r I1 J1 I2 J2 hX hM (hk _ _ _ _ (by omega) (by omega) hI2)
set_option maxRecDepth 100000 in
theorem lw_c13 {Inv : Nat → Bool → HI → HJ → Prop} (hop : OpAll Inv) {L : Nat} {xs : Nat → Int32} {E : Ex} {cs : Nat × Nat} (n : Nat) (b : Bool) (I : HI) (J : HJ) (hI : Inv (n + 1) b I J) (x v : Int32) (hcs : cs.1 + 2 ≤ 399528 ∧ cs.2 + 59392 ≤ 7902896) (h1 : vp_in (x + (1 : Int32)) L) (h2 : vp_in (x + (2 : Int32)) L) (h3 : vp_in (x + (3 : Int32)) L) (h4 : vp_in (x + (4 : Int32)) L)
    (hk : ∀ (cs' : Nat × Nat) (b' : Bool) (I' : HI) (J' : HJ), cs'.1 ≤ cs.1 + 2 → cs'.2 ≤ cs.2 + 59392 → Inv n b' I' J' → GL L xs E cs' 1721 (lvL x) [] (zs b', I', J')) (c13 : v = 13) : GL L xs E cs 39 (lvL x) [.int v] (zs b, I, J) := by
  refine GL.g (fun _ k => G.tswIn 652 24 rfl (by rw [c13]; decide) (by rw [c13]; decide) (by rw [c13]; rfl) (by decide) k) ?_
  have hO := (hop n b I J (xs (x + (1 : Int32)).toNatClampNeg) (xs (x + (2 : Int32)).toNatClampNeg) (xs (x + (3 : Int32)).toNatClampNeg) (xs (x + (4 : Int32)).toNatClampNeg) hI).2.2.2.2.2.2.2.2.2.2.2.2.2.1
  obtain ⟨r, I1, J1, I2, J2, hX, hM, hI2⟩ := hO
  exact lc_13 b x _ _ _ _ I J hcs h1 h2 h3 h4 rfl rfl rfl rfl r I1 J1 I2 J2 hX hM (hk _ _ _ _ (by omega) (by omega) hI2)
set_option maxRecDepth 100000 in
theorem lw_c14 {Inv : Nat → Bool → HI → HJ → Prop} (hop : OpAll Inv) {L : Nat} {xs : Nat → Int32} {E : Ex} {cs : Nat × Nat} (n : Nat) (b : Bool) (I : HI) (J : HJ) (hI : Inv (n + 1) b I J) (x v : Int32) (hcs : cs.1 + 2 ≤ 399528 ∧ cs.2 + 59392 ≤ 7902896) (h1 : vp_in (x + (1 : Int32)) L) (h2 : vp_in (x + (2 : Int32)) L) (h3 : vp_in (x + (3 : Int32)) L) (h4 : vp_in (x + (4 : Int32)) L)
    (hk : ∀ (cs' : Nat × Nat) (b' : Bool) (I' : HI) (J' : HJ), cs'.1 ≤ cs.1 + 2 → cs'.2 ≤ cs.2 + 59392 → Inv n b' I' J' → GL L xs E cs' 1721 (lvL x) [] (zs b', I', J')) (c14 : v = 14) : GL L xs E cs 39 (lvL x) [.int v] (zs b, I, J) := by
  refine GL.g (fun _ k => G.tswIn 678 24 rfl (by rw [c14]; decide) (by rw [c14]; decide) (by rw [c14]; rfl) (by decide) k) ?_
  have hO := (hop n b I J (xs (x + (1 : Int32)).toNatClampNeg) (xs (x + (2 : Int32)).toNatClampNeg) (xs (x + (3 : Int32)).toNatClampNeg) (xs (x + (4 : Int32)).toNatClampNeg) hI).2.2.2.2.2.2.2.2.2.2.2.2.2.2.1
  obtain ⟨r, I1, J1, I2, J2, hX, hM, hI2⟩ := hO
  exact lc_14 b x _ _ _ _ I J hcs h1 h2 h3 h4 rfl rfl rfl rfl r I1 J1 I2 J2 hX hM (hk _ _ _ _ (by omega) (by omega) hI2)
set_option maxRecDepth 100000 in
theorem lw_c15 {Inv : Nat → Bool → HI → HJ → Prop} (hop : OpAll Inv) {L : Nat} {xs : Nat → Int32} {E : Ex} {cs : Nat × Nat} (n : Nat) (b : Bool) (I : HI) (J : HJ) (hI : Inv (n + 1) b I J) (x v : Int32) (hcs : cs.1 + 2 ≤ 399528 ∧ cs.2 + 59392 ≤ 7902896) (h1 : vp_in (x + (1 : Int32)) L) (h2 : vp_in (x + (2 : Int32)) L) (h3 : vp_in (x + (3 : Int32)) L) (h4 : vp_in (x + (4 : Int32)) L)
    (hk : ∀ (cs' : Nat × Nat) (b' : Bool) (I' : HI) (J' : HJ), cs'.1 ≤ cs.1 + 2 → cs'.2 ≤ cs.2 + 59392 → Inv n b' I' J' → GL L xs E cs' 1721 (lvL x) [] (zs b', I', J')) (c15 : v = 15) : GL L xs E cs 39 (lvL x) [.int v] (zs b, I, J) := by
  refine GL.g (fun _ k => G.tswIn 691 24 rfl (by rw [c15]; decide) (by rw [c15]; decide) (by rw [c15]; rfl) (by decide) k) ?_
  have hO := (hop n b I J (xs (x + (1 : Int32)).toNatClampNeg) (xs (x + (2 : Int32)).toNatClampNeg) (xs (x + (3 : Int32)).toNatClampNeg) (xs (x + (4 : Int32)).toNatClampNeg) hI).2.2.2.2.2.2.2.2.2.2.2.2.2.2.2.1
  obtain ⟨r, I1, J1, I2, J2, hX, hM, hI2⟩ := hO
  exact lc_15 b x _ _ _ _ I J hcs h1 h2 h3 h4 rfl rfl rfl rfl r I1 J1 I2 J2 hX hM (hk _ _ _ _ (by omega) (by omega) hI2)
set_option maxRecDepth 100000 in
theorem lw_c16 {Inv : Nat → Bool → HI → HJ → Prop} (hop : OpAll Inv) {L : Nat} {xs : Nat → Int32} {E : Ex} {cs : Nat × Nat} (n : Nat) (b : Bool) (I : HI) (J : HJ) (hI : Inv (n + 1) b I J) (x v : Int32) (hcs : cs.1 + 2 ≤ 399528 ∧ cs.2 + 59392 ≤ 7902896) (h1 : vp_in (x + (1 : Int32)) L) (h2 : vp_in (x + (2 : Int32)) L) (h3 : vp_in (x + (3 : Int32)) L) (h4 : vp_in (x + (4 : Int32)) L)
    (hk : ∀ (cs' : Nat × Nat) (b' : Bool) (I' : HI) (J' : HJ), cs'.1 ≤ cs.1 + 2 → cs'.2 ≤ cs.2 + 59392 → Inv n b' I' J' → GL L xs E cs' 1721 (lvL x) [] (zs b', I', J')) (c16 : v = 16) : GL L xs E cs 39 (lvL x) [.int v] (zs b, I, J) := by
  refine GL.g (fun _ k => G.tswIn 748 24 rfl (by rw [c16]; decide) (by rw [c16]; decide) (by rw [c16]; rfl) (by decide) k) ?_
  have hO := (hop n b I J (xs (x + (1 : Int32)).toNatClampNeg) (xs (x + (2 : Int32)).toNatClampNeg) (xs (x + (3 : Int32)).toNatClampNeg) (xs (x + (4 : Int32)).toNatClampNeg) hI).2.2.2.2.2.2.2.2.2.2.2.2.2.2.2.2.1
  obtain ⟨r, I1, J1, I2, J2, hX, hM, hI2⟩ := hO
  exact lc_16 b x _ _ _ _ I J hcs h1 h2 h3 h4 rfl rfl rfl rfl r I1 J1 I2 J2 hX hM (hk _ _ _ _ (by omega) (by omega) hI2)
set_option maxRecDepth 100000 in
theorem lw_c17 {Inv : Nat → Bool → HI → HJ → Prop} (hop : OpAll Inv) {L : Nat} {xs : Nat → Int32} {E : Ex} {cs : Nat × Nat} (n : Nat) (b : Bool) (I : HI) (J : HJ) (hI : Inv (n + 1) b I J) (x v : Int32) (hcs : cs.1 + 2 ≤ 399528 ∧ cs.2 + 59392 ≤ 7902896) (h1 : vp_in (x + (1 : Int32)) L) (h2 : vp_in (x + (2 : Int32)) L) (h3 : vp_in (x + (3 : Int32)) L) (h4 : vp_in (x + (4 : Int32)) L)
    (hk : ∀ (cs' : Nat × Nat) (b' : Bool) (I' : HI) (J' : HJ), cs'.1 ≤ cs.1 + 2 → cs'.2 ≤ cs.2 + 59392 → Inv n b' I' J' → GL L xs E cs' 1721 (lvL x) [] (zs b', I', J')) (c17 : v = 17) : GL L xs E cs 39 (lvL x) [.int v] (zs b, I, J) := by
  refine GL.g (fun _ k => G.tswIn 805 24 rfl (by rw [c17]; decide) (by rw [c17]; decide) (by rw [c17]; rfl) (by decide) k) ?_
  have hO := (hop n b I J (xs (x + (1 : Int32)).toNatClampNeg) (xs (x + (2 : Int32)).toNatClampNeg) (xs (x + (3 : Int32)).toNatClampNeg) (xs (x + (4 : Int32)).toNatClampNeg) hI).2.2.2.2.2.2.2.2.2.2.2.2.2.2.2.2.2.1
  obtain ⟨r, I1, J1, I2, J2, hX, hM, hI2⟩ := hO
  exact lc_17 b x _ _ _ _ I J hcs h1 h2 h3 h4 rfl rfl rfl rfl r I1 J1 I2 J2 hX hM (hk _ _ _ _ (by omega) (by omega) hI2)
set_option maxRecDepth 100000 in
theorem lw_c18 {Inv : Nat → Bool → HI → HJ → Prop} (hop : OpAll Inv) {L : Nat} {xs : Nat → Int32} {E : Ex} {cs : Nat × Nat} (n : Nat) (b : Bool) (I : HI) (J : HJ) (hI : Inv (n + 1) b I J) (x v : Int32) (hcs : cs.1 + 2 ≤ 399528 ∧ cs.2 + 59392 ≤ 7902896) (h1 : vp_in (x + (1 : Int32)) L) (h2 : vp_in (x + (2 : Int32)) L) (h3 : vp_in (x + (3 : Int32)) L) (h4 : vp_in (x + (4 : Int32)) L)
    (hk : ∀ (cs' : Nat × Nat) (b' : Bool) (I' : HI) (J' : HJ), cs'.1 ≤ cs.1 + 2 → cs'.2 ≤ cs.2 + 59392 → Inv n b' I' J' → GL L xs E cs' 1721 (lvL x) [] (zs b', I', J')) (c18 : v = 18) : GL L xs E cs 39 (lvL x) [.int v] (zs b, I, J) := by
  refine GL.g (fun _ k => G.tswIn 818 24 rfl (by rw [c18]; decide) (by rw [c18]; decide) (by rw [c18]; rfl) (by decide) k) ?_
  have hO := (hop n b I J (xs (x + (1 : Int32)).toNatClampNeg) (xs (x + (2 : Int32)).toNatClampNeg) (xs (x + (3 : Int32)).toNatClampNeg) (xs (x + (4 : Int32)).toNatClampNeg) hI).2.2.2.2.2.2.2.2.2.2.2.2.2.2.2.2.2.2.1
  obtain ⟨r, I1, J1, I2, J2, hX, hM, hI2⟩ := hO
  exact lc_18 b x _ _ _ _ I J hcs h1 h2 h3 h4 rfl rfl rfl rfl r I1 J1 I2 J2 hX hM (hk _ _ _ _ (by omega) (by omega) hI2)
set_option maxRecDepth 100000 in
theorem lw_c19 {Inv : Nat → Bool → HI → HJ → Prop} (hop : OpAll Inv) {L : Nat} {xs : Nat → Int32} {E : Ex} {cs : Nat × Nat} (n : Nat) (b : Bool) (I : HI) (J : HJ) (hI : Inv (n + 1) b I J) (x v : Int32) (hcs : cs.1 + 2 ≤ 399528 ∧ cs.2 + 59392 ≤ 7902896) (h1 : vp_in (x + (1 : Int32)) L) (h2 : vp_in (x + (2 : Int32)) L) (h3 : vp_in (x + (3 : Int32)) L) (h4 : vp_in (x + (4 : Int32)) L)
    (hk : ∀ (cs' : Nat × Nat) (b' : Bool) (I' : HI) (J' : HJ), cs'.1 ≤ cs.1 + 2 → cs'.2 ≤ cs.2 + 59392 → Inv n b' I' J' → GL L xs E cs' 1721 (lvL x) [] (zs b', I', J')) (c19 : v = 19) : GL L xs E cs 39 (lvL x) [.int v] (zs b, I, J) := by
  refine GL.g (fun _ k => G.tswIn 831 24 rfl (by rw [c19]; decide) (by rw [c19]; decide) (by rw [c19]; rfl) (by decide) k) ?_
  have hO := (hop n b I J (xs (x + (1 : Int32)).toNatClampNeg) (xs (x + (2 : Int32)).toNatClampNeg) (xs (x + (3 : Int32)).toNatClampNeg) (xs (x + (4 : Int32)).toNatClampNeg) hI).2.2.2.2.2.2.2.2.2.2.2.2.2.2.2.2.2.2.2.1
  obtain ⟨r, I1, J1, I2, J2, hX, hM, hI2⟩ := hO
  exact lc_19 b x _ _ _ _ I J hcs h1 h2 h3 h4 rfl rfl rfl rfl r I1 J1 I2 J2 hX hM (hk _ _ _ _ (by omega) (by omega) hI2)
set_option maxRecDepth 100000 in
theorem lw_c20 {Inv : Nat → Bool → HI → HJ → Prop} (hop : OpAll Inv) {L : Nat} {xs : Nat → Int32} {E : Ex} {cs : Nat × Nat} (n : Nat) (b : Bool) (I : HI) (J : HJ) (hI : Inv (n + 1) b I J) (x v : Int32) (hcs : cs.1 + 2 ≤ 399528 ∧ cs.2 + 59392 ≤ 7902896) (h1 : vp_in (x + (1 : Int32)) L) (h2 : vp_in (x + (2 : Int32)) L) (h3 : vp_in (x + (3 : Int32)) L) (h4 : vp_in (x + (4 : Int32)) L)
    (hk : ∀ (cs' : Nat × Nat) (b' : Bool) (I' : HI) (J' : HJ), cs'.1 ≤ cs.1 + 2 → cs'.2 ≤ cs.2 + 59392 → Inv n b' I' J' → GL L xs E cs' 1721 (lvL x) [] (zs b', I', J')) (c20 : v = 20) : GL L xs E cs 39 (lvL x) [.int v] (zs b, I, J) := by
  refine GL.g (fun _ k => G.tswIn 868 24 rfl (by rw [c20]; decide) (by rw [c20]; decide) (by rw [c20]; rfl) (by decide) k) ?_
  have hO := (hop n b I J (xs (x + (1 : Int32)).toNatClampNeg) (xs (x + (2 : Int32)).toNatClampNeg) (xs (x + (3 : Int32)).toNatClampNeg) (xs (x + (4 : Int32)).toNatClampNeg) hI).2.2.2.2.2.2.2.2.2.2.2.2.2.2.2.2.2.2.2.2.1
  obtain ⟨r, I1, J1, I2, J2, hX, hM, hI2⟩ := hO
  exact lc_20 b x _ _ _ _ I J hcs h1 h2 h3 h4 rfl rfl rfl rfl r I1 J1 I2 J2 hX hM (hk _ _ _ _ (by omega) (by omega) hI2)
set_option maxRecDepth 100000 in
theorem lw_c21 {Inv : Nat → Bool → HI → HJ → Prop} (hop : OpAll Inv) {L : Nat} {xs : Nat → Int32} {E : Ex} {cs : Nat × Nat} (n : Nat) (b : Bool) (I : HI) (J : HJ) (hI : Inv (n + 1) b I J) (x v : Int32) (hcs : cs.1 + 2 ≤ 399528 ∧ cs.2 + 59392 ≤ 7902896) (h1 : vp_in (x + (1 : Int32)) L) (h2 : vp_in (x + (2 : Int32)) L) (h3 : vp_in (x + (3 : Int32)) L) (h4 : vp_in (x + (4 : Int32)) L)
    (hk : ∀ (cs' : Nat × Nat) (b' : Bool) (I' : HI) (J' : HJ), cs'.1 ≤ cs.1 + 2 → cs'.2 ≤ cs.2 + 59392 → Inv n b' I' J' → GL L xs E cs' 1721 (lvL x) [] (zs b', I', J')) (c21 : v = 21) : GL L xs E cs 39 (lvL x) [.int v] (zs b, I, J) := by
  refine GL.g (fun _ k => G.tswIn 882 24 rfl (by rw [c21]; decide) (by rw [c21]; decide) (by rw [c21]; rfl) (by decide) k) ?_
  have hO := (hop n b I J (xs (x + (1 : Int32)).toNatClampNeg) (xs (x + (2 : Int32)).toNatClampNeg) (xs (x + (3 : Int32)).toNatClampNeg) (xs (x + (4 : Int32)).toNatClampNeg) hI).2.2.2.2.2.2.2.2.2.2.2.2.2.2.2.2.2.2.2.2.2.1
  obtain ⟨r, I1, J1, I2, J2, hX, hM, hI2⟩ := hO
  exact lc_21 b x _ _ _ _ I J hcs h1 h2 h3 h4 rfl rfl rfl rfl r I1 J1 I2 J2 hX hM (hk _ _ _ _ (by omega) (by omega) hI2)
set_option maxRecDepth 100000 in
theorem lw_c22 {Inv : Nat → Bool → HI → HJ → Prop} (hop : OpAll Inv) {L : Nat} {xs : Nat → Int32} {E : Ex} {cs : Nat × Nat} (n : Nat) (b : Bool) (I : HI) (J : HJ) (hI : Inv (n + 1) b I J) (x v : Int32) (hcs : cs.1 + 2 ≤ 399528 ∧ cs.2 + 59392 ≤ 7902896) (h1 : vp_in (x + (1 : Int32)) L) (h2 : vp_in (x + (2 : Int32)) L) (h3 : vp_in (x + (3 : Int32)) L) (h4 : vp_in (x + (4 : Int32)) L)
    (hk : ∀ (cs' : Nat × Nat) (b' : Bool) (I' : HI) (J' : HJ), cs'.1 ≤ cs.1 + 2 → cs'.2 ≤ cs.2 + 59392 → Inv n b' I' J' → GL L xs E cs' 1721 (lvL x) [] (zs b', I', J')) (c22 : v = 22) : GL L xs E cs 39 (lvL x) [.int v] (zs b, I, J) := by
  refine GL.g (fun _ k => G.tswIn 895 24 rfl (by rw [c22]; decide) (by rw [c22]; decide) (by rw [c22]; rfl) (by decide) k) ?_
  have hO := (hop n b I J (xs (x + (1 : Int32)).toNatClampNeg) (xs (x + (2 : Int32)).toNatClampNeg) (xs (x + (3 : Int32)).toNatClampNeg) (xs (x + (4 : Int32)).toNatClampNeg) hI).2.2.2.2.2.2.2.2.2.2.2.2.2.2.2.2.2.2.2.2.2.2.1
  obtain ⟨r, I1, J1, I2, J2, hX, hM, hI2⟩ := hO
  exact lc_22 b x _ _ _ _ I J hcs h1 h2 h3 h4 rfl rfl rfl rfl r I1 J1 I2 J2 hX hM (hk _ _ _ _ (by omega) (by omega) hI2)
set_option maxRecDepth 100000 in
theorem lw_c23 {Inv : Nat → Bool → HI → HJ → Prop} (hop : OpAll Inv) {L : Nat} {xs : Nat → Int32} {E : Ex} {cs : Nat × Nat} (n : Nat) (b : Bool) (I : HI) (J : HJ) (hI : Inv (n + 1) b I J) (x v : Int32) (hcs : cs.1 + 2 ≤ 399528 ∧ cs.2 + 59392 ≤ 7902896) (h1 : vp_in (x + (1 : Int32)) L) (h2 : vp_in (x + (2 : Int32)) L) (h3 : vp_in (x + (3 : Int32)) L) (h4 : vp_in (x + (4 : Int32)) L)
    (hk : ∀ (cs' : Nat × Nat) (b' : Bool) (I' : HI) (J' : HJ), cs'.1 ≤ cs.1 + 2 → cs'.2 ≤ cs.2 + 59392 → Inv n b' I' J' → GL L xs E cs' 1721 (lvL x) [] (zs b', I', J')) (c23 : v = 23) : GL L xs E cs 39 (lvL x) [.int v] (zs b, I, J) := by
  refine GL.g (fun _ k => G.tswIn 932 24 rfl (by rw [c23]; decide) (by rw [c23]; decide) (by rw [c23]; rfl) (by decide) k) ?_
  have hO := (hop n b I J (xs (x + (1 : Int32)).toNatClampNeg) (xs (x + (2 : Int32)).toNatClampNeg) (xs (x + (3 : Int32)).toNatClampNeg) (xs (x + (4 : Int32)).toNatClampNeg) hI).2.2.2.2.2.2.2.2.2.2.2.2.2.2.2.2.2.2.2.2.2.2.2.1
  obtain ⟨r, I1, J1, I2, J2, hX, hM, hI2⟩ := hO
  exact lc_23 b x _ _ _ _ I J hcs h1 h2 h3 h4 rfl rfl rfl rfl r I1 J1 I2 J2 hX hM (hk _ _ _ _ (by omega) (by omega) hI2)
set_option maxRecDepth 100000 in
theorem lw_c24 {Inv : Nat → Bool → HI → HJ → Prop} (hop : OpAll Inv) {L : Nat} {xs : Nat → Int32} {E : Ex} {cs : Nat × Nat} (n : Nat) (b : Bool) (I : HI) (J : HJ) (hI : Inv (n + 1) b I J) (x v : Int32) (hcs : cs.1 + 2 ≤ 399528 ∧ cs.2 + 59392 ≤ 7902896) (h1 : vp_in (x + (1 : Int32)) L) (h2 : vp_in (x + (2 : Int32)) L) (h3 : vp_in (x + (3 : Int32)) L) (h4 : vp_in (x + (4 : Int32)) L)
    (hk : ∀ (cs' : Nat × Nat) (b' : Bool) (I' : HI) (J' : HJ), cs'.1 ≤ cs.1 + 2 → cs'.2 ≤ cs.2 + 59392 → Inv n b' I' J' → GL L xs E cs' 1721 (lvL x) [] (zs b', I', J')) (c24 : v = 24) : GL L xs E cs 39 (lvL x) [.int v] (zs b, I, J) := by
  refine GL.g (fun _ k => G.tswIn 1001 24 rfl (by rw [c24]; decide) (by rw [c24]; decide) (by rw [c24]; rfl) (by decide) k) ?_
  have hO := (hop n b I J (xs (x + (1 : Int32)).toNatClampNeg) (xs (x + (2 : Int32)).toNatClampNeg) (xs (x + (3 : Int32)).toNatClampNeg) (xs (x + (4 : Int32)).toNatClampNeg) hI).2.2.2.2.2.2.2.2.2.2.2.2.2.2.2.2.2.2.2.2.2.2.2.2.1
  obtain ⟨r, I1, J1, I2, J2, hX, hM, hI2⟩ := hO
  exact lc_24 b x _ _ _ _ I J hcs h1 h2 h3 h4 rfl rfl rfl rfl r I1 J1 I2 J2 hX hM (hk _ _ _ _ (by omega) (by omega) hI2)
set_option maxRecDepth 100000 in
theorem lw_c25 {Inv : Nat → Bool → HI → HJ → Prop} (hop : OpAll Inv) {L : Nat} {xs : Nat → Int32} {E : Ex} {cs : Nat × Nat} (n : Nat) (b : Bool) (I : HI) (J : HJ) (hI : Inv (n + 1) b I J) (x v : Int32) (hcs : cs.1 + 2 ≤ 399528 ∧ cs.2 + 59392 ≤ 7902896) (h1 : vp_in (x + (1 : Int32)) L) (h2 : vp_in (x + (2 : Int32)) L) (h3 : vp_in (x + (3 : Int32)) L) (h4 : vp_in (x + (4 : Int32)) L)
    (hk : ∀ (cs' : Nat × Nat) (b' : Bool) (I' : HI) (J' : HJ), cs'.1 ≤ cs.1 + 2 → cs'.2 ≤ cs.2 + 59392 → Inv n b' I' J' → GL L xs E cs' 1721 (lvL x) [] (zs b', I', J')) (c25 : v = 25) : GL L xs E cs 39 (lvL x) [.int v] (zs b, I, J) := by
  refine GL.g (fun _ k => G.tswIn 1026 24 rfl (by rw [c25]; decide) (by rw [c25]; decide) (by rw [c25]; rfl) (by decide) k) ?_
  have hO := (hop n b I J (xs (x + (1 : Int32)).toNatClampNeg) (xs (x + (2 : Int32)).toNatClampNeg) (xs (x + (3 : Int32)).toNatClampNeg) (xs (x + (4 : Int32)).toNatClampNeg) hI).2.2.2.2.2.2.2.2.2.2.2.2.2.2.2.2.2.2.2.2.2.2.2.2.2.1
  obtain ⟨r, I1, J1, I2, J2, hX, hM, hI2⟩ := hO
  exact lc_25 b x _ _ _ _ I J hcs h1 h2 h3 h4 rfl rfl rfl rfl r I1 J1 I2 J2 hX hM (hk _ _ _ _ (by omega) (by omega) hI2)
set_option maxRecDepth 100000 in
theorem lw_c26 {Inv : Nat → Bool → HI → HJ → Prop} (hop : OpAll Inv) {L : Nat} {xs : Nat → Int32} {E : Ex} {cs : Nat × Nat} (n : Nat) (b : Bool) (I : HI) (J : HJ) (hI : Inv (n + 1) b I J) (x v : Int32) (hcs : cs.1 + 2 ≤ 399528 ∧ cs.2 + 59392 ≤ 7902896) (h1 : vp_in (x + (1 : Int32)) L) (h2 : vp_in (x + (2 : Int32)) L) (h3 : vp_in (x + (3 : Int32)) L) (h4 : vp_in (x + (4 : Int32)) L)
    (hk : ∀ (cs' : Nat × Nat) (b' : Bool) (I' : HI) (J' : HJ), cs'.1 ≤ cs.1 + 2 → cs'.2 ≤ cs.2 + 59392 → Inv n b' I' J' → GL L xs E cs' 1721 (lvL x) [] (zs b', I', J')) (c26 : v = 26) : GL L xs E cs 39 (lvL x) [.int v] (zs b, I, J) := by
  refine GL.g (fun _ k => G.tswIn 1051 24 rfl (by rw [c26]; decide) (by rw [c26]; decide) (by rw [c26]; rfl) (by decide) k) ?_
  have hO := (hop n b I J (xs (x + (1 : Int32)).toNatClampNeg) (xs (x + (2 : Int32)).toNatClampNeg) (xs (x + (3 : Int32)).toNatClampNeg) (xs (x + (4 : Int32)).toNatClampNeg) hI).2.2.2.2.2.2.2.2.2.2.2.2.2.2.2.2.2.2.2.2.2.2.2.2.2.2.1
  obtain ⟨r, I1, J1, I2, J2, hX, hM, hI2⟩ := hO
  exact lc_26 b x _ _ _ _ I J hcs h1 h2 h3 h4 rfl rfl rfl rfl r I1 J1 I2 J2 hX hM (hk _ _ _ _ (by omega) (by omega) hI2)
set_option maxRecDepth 100000 in
theorem lw_c27 {Inv : Nat → Bool → HI → HJ → Prop} (hop : OpAll Inv) {L : Nat} {xs : Nat → Int32} {E : Ex} {cs : Nat × Nat} (n : Nat) (b : Bool) (I : HI) (J : HJ) (hI : Inv (n + 1) b I J) (x v : Int32) (hcs : cs.1 + 2 ≤ 399528 ∧ cs.2 + 59392 ≤ 7902896) (h1 : vp_in (x + (1 : Int32)) L) (h2 : vp_in (x + (2 : Int32)) L) (h3 : vp_in (x + (3 : Int32)) L) (h4 : vp_in (x + (4 : Int32)) L)
    (hk : ∀ (cs' : Nat × Nat) (b' : Bool) (I' : HI) (J' : HJ), cs'.1 ≤ cs.1 + 2 → cs'.2 ≤ cs.2 + 59392 → Inv n b' I' J' → GL L xs E cs' 1721 (lvL x) [] (zs b', I', J')) (c27 : v = 27) : GL L xs E cs 39 (lvL x) [.int v] (zs b, I, J) := by
  refine GL.g (fun _ k => G.tswIn 1077 24 rfl (by rw [c27]; decide) (by rw [c27]; decide) (by rw [c27]; rfl) (by decide) k) ?_
  have hO := (hop n b I J (xs (x + (1 : Int32)).toNatClampNeg) (xs (x + (2 : Int32)).toNatClampNeg) (xs (x + (3 : Int32)).toNatClampNeg) (xs (x + (4 : Int32)).toNatClampNeg) hI).2.2.2.2.2.2.2.2.2.2.2.2.2.2.2.2.2.2.2.2.2.2.2.2.2.2.2.1
  obtain ⟨r, I1, J1, I2, J2, hX, hM, hI2⟩ := hO
  exact lc_27 b x _ _ _ _ I J hcs h1 h2 h3 h4 rfl rfl rfl rfl r I1 J1 I2 J2 hX hM (hk _ _ _ _ (by omega) (by omega) hI2)
set_option maxRecDepth 100000 in
theorem lw_c28 {Inv : Nat → Bool → HI → HJ → Prop} (hop : OpAll Inv) {L : Nat} {xs : Nat → Int32} {E : Ex} {cs : Nat × Nat} (n : Nat) (b : Bool) (I : HI) (J : HJ) (hI : Inv (n + 1) b I J) (x v : Int32) (hcs : cs.1 + 2 ≤ 399528 ∧ cs.2 + 59392 ≤ 7902896) (h1 : vp_in (x + (1 : Int32)) L) (h2 : vp_in (x + (2 : Int32)) L) (h3 : vp_in (x + (3 : Int32)) L) (h4 : vp_in (x + (4 : Int32)) L)
    (hk : ∀ (cs' : Nat × Nat) (b' : Bool) (I' : HI) (J' : HJ), cs'.1 ≤ cs.1 + 2 → cs'.2 ≤ cs.2 + 59392 → Inv n b' I' J' → GL L xs E cs' 1721 (lvL x) [] (zs b', I', J')) (c28 : v = 28) : GL L xs E cs 39 (lvL x) [.int v] (zs b, I, J) := by
  refine GL.g (fun _ k => G.tswIn 1102 24 rfl (by rw [c28]; decide) (by rw [c28]; decide) (by rw [c28]; rfl) (by decide) k) ?_
  have hO := (hop n b I J (xs (x + (1 : Int32)).toNatClampNeg) (xs (x + (2 : Int32)).toNatClampNeg) (xs (x + (3 : Int32)).toNatClampNeg) (xs (x + (4 : Int32)).toNatClampNeg) hI).2.2.2.2.2.2.2.2.2.2.2.2.2.2.2.2.2.2.2.2.2.2.2.2.2.2.2.2.1
  obtain ⟨r, I1, J1, I2, J2, hX, hM, hI2⟩ := hO
  exact lc_28 b x _ _ _ _ I J hcs h1 h2 h3 h4 rfl rfl rfl rfl r I1 J1 I2 J2 hX hM (hk _ _ _ _ (by omega) (by omega) hI2)
set_option maxRecDepth 100000 in
theorem lw_c29 {Inv : Nat → Bool → HI → HJ → Prop} (hop : OpAll Inv) {L : Nat} {xs : Nat → Int32} {E : Ex} {cs : Nat × Nat} (n : Nat) (b : Bool) (I : HI) (J : HJ) (hI : Inv (n + 1) b I J) (x v : Int32) (hcs : cs.1 + 2 ≤ 399528 ∧ cs.2 + 59392 ≤ 7902896) (h1 : vp_in (x + (1 : Int32)) L) (h2 : vp_in (x + (2 : Int32)) L) (h3 : vp_in (x + (3 : Int32)) L) (h4 : vp_in (x + (4 : Int32)) L)
    (hk : ∀ (cs' : Nat × Nat) (b' : Bool) (I' : HI) (J' : HJ), cs'.1 ≤ cs.1 + 2 → cs'.2 ≤ cs.2 + 59392 → Inv n b' I' J' → GL L xs E cs' 1721 (lvL x) [] (zs b', I', J')) (c29 : v = 29) : GL L xs E cs 39 (lvL x) [.int v] (zs b, I, J) := by
  refine GL.g (fun _ k => G.tswIn 1140 24 rfl (by rw [c29]; decide) (by rw [c29]; decide) (by rw [c29]; rfl) (by decide) k) ?_
  have hO := (hop n b I J (xs (x + (1 : Int32)).toNatClampNeg) (xs (x + (2 : Int32)).toNatClampNeg) (xs (x + (3 : Int32)).toNatClampNeg) (xs (x + (4 : Int32)).toNatClampNeg) hI).2.2.2.2.2.2.2.2.2.2.2.2.2.2.2.2.2.2.2.2.2.2.2.2.2.2.2.2.2.1
  obtain ⟨r, I1, J1, I2, J2, hX, hM, hI2⟩ := hO
  exact lc_29 b x _ _ _ _ I J hcs h1 h2 h3 h4 rfl rfl rfl rfl r I1 J1 I2 J2 hX hM (hk _ _ _ _ (by omega) (by omega) hI2)
set_option maxRecDepth 100000 in
theorem lw_c30 {Inv : Nat → Bool → HI → HJ → Prop} (hop : OpAll Inv) {L : Nat} {xs : Nat → Int32} {E : Ex} {cs : Nat × Nat} (n : Nat) (b : Bool) (I : HI) (J : HJ) (hI : Inv (n + 1) b I J) (x v : Int32) (hcs : cs.1 + 2 ≤ 399528 ∧ cs.2 + 59392 ≤ 7902896) (h1 : vp_in (x + (1 : Int32)) L) (h2 : vp_in (x + (2 : Int32)) L) (h3 : vp_in (x + (3 : Int32)) L) (h4 : vp_in (x + (4 : Int32)) L)
    (hk : ∀ (cs' : Nat × Nat) (b' : Bool) (I' : HI) (J' : HJ), cs'.1 ≤ cs.1 + 2 → cs'.2 ≤ cs.2 + 59392 → Inv n b' I' J' → GL L xs E cs' 1721 (lvL x) [] (zs b', I', J')) (c30 : v = 30) : GL L xs E cs 39 (lvL x) [.int v] (zs b, I, J) := by
  refine GL.g (fun _ k => G.tswIn 1165 24 rfl (by rw [c30]; decide) (by rw [c30]; decide) (by rw [c30]; rfl) (by decide) k) ?_
  have hO := (hop n b I J (xs (x + (1 : Int32)).toNatClampNeg) (xs (x + (2 : Int32)).toNatClampNeg) (xs (x + (3 : Int32)).toNatClampNeg) (xs (x + (4 : Int32)).toNatClampNeg) hI).2.2.2.2.2.2.2.2.2.2.2.2.2.2.2.2.2.2.2.2.2.2.2.2.2.2.2.2.2.2.1
  obtain ⟨r, I1, J1, I2, J2, hX, hM, hI2⟩ := hO
  exact lc_30 b x _ _ _ _ I J hcs h1 h2 h3 h4 rfl rfl rfl rfl r I1 J1 I2 J2 hX hM (hk _ _ _ _ (by omega) (by omega) hI2)
set_option maxRecDepth 100000 in
theorem lw_c31 {Inv : Nat → Bool → HI → HJ → Prop} (hop : OpAll Inv) {L : Nat} {xs : Nat → Int32} {E : Ex} {cs : Nat × Nat} (n : Nat) (b : Bool) (I : HI) (J : HJ) (hI : Inv (n + 1) b I J) (x v : Int32) (hcs : cs.1 + 2 ≤ 399528 ∧ cs.2 + 59392 ≤ 7902896) (h1 : vp_in (x + (1 : Int32)) L) (h2 : vp_in (x + (2 : Int32)) L) (h3 : vp_in (x + (3 : Int32)) L) (h4 : vp_in (x + (4 : Int32)) L)
    (hk : ∀ (cs' : Nat × Nat) (b' : Bool) (I' : HI) (J' : HJ), cs'.1 ≤ cs.1 + 2 → cs'.2 ≤ cs.2 + 59392 → Inv n b' I' J' → GL L xs E cs' 1721 (lvL x) [] (zs b', I', J')) (c31 : v = 31) : GL L xs E cs 39 (lvL x) [.int v] (zs b, I, J) := by
  refine GL.g (fun _ k => G.tswIn 1178 24 rfl (by rw [c31]; decide) (by rw [c31]; decide) (by rw [c31]; rfl) (by decide) k) ?_
  have hO := (hop n b I J (xs (x + (1 : Int32)).toNatClampNeg) (xs (x + (2 : Int32)).toNatClampNeg) (xs (x + (3 : Int32)).toNatClampNeg) (xs (x + (4 : Int32)).toNatClampNeg) hI).2.2.2.2.2.2.2.2.2.2.2.2.2.2.2.2.2.2.2.2.2.2.2.2.2.2.2.2.2.2.2.1
  rcases hO with ⟨w, v9, I2, J2, hX, hM, hT, hJ, hv, hI2⟩ | ⟨v9, I2, J2, hX, hM, hT, hI2⟩
  · exact lc_31some b x _ _ _ _ I J hcs h1 h2 h3 h4 rfl rfl rfl rfl w v9 I2 J2 hX hM hT hJ hv (hk _ _ _ _ (by show cs.1 + 1 ≤ _; omega) (by show cs.2 + 6 ≤ _; omega) hI2)
  · exact lc_31none b x _ _ _ _ I J hcs h1 h2 h3 h4 rfl rfl rfl rfl v9 I2 J2 hX hM hT (hk _ _ _ _ (by show cs.1 + 1 ≤ _; omega) (by show cs.2 + 6 ≤ _; omega) hI2)
set_option maxRecDepth 100000 in
theorem lw_c32 {Inv : Nat → Bool → HI → HJ → Prop} (hop : OpAll Inv) {L : Nat} {xs : Nat → Int32} {E : Ex} {cs : Nat × Nat} (n : Nat) (b : Bool) (I : HI) (J : HJ) (hI : Inv (n + 1) b I J) (x v : Int32) (hcs : cs.1 + 2 ≤ 399528 ∧ cs.2 + 59392 ≤ 7902896) (h1 : vp_in (x + (1 : Int32)) L) (h2 : vp_in (x + (2 : Int32)) L) (h3 : vp_in (x + (3 : Int32)) L) (h4 : vp_in (x + (4 : Int32)) L)
    (hk : ∀ (cs' : Nat × Nat) (b' : Bool) (I' : HI) (J' : HJ), cs'.1 ≤ cs.1 + 2 → cs'.2 ≤ cs.2 + 59392 → Inv n b' I' J' → GL L xs E cs' 1721 (lvL x) [] (zs b', I', J')) (c32 : v = 32) : GL L xs E cs 39 (lvL x) [.int v] (zs b, I, J) := by
  refine GL.g (fun _ k => G.tswIn 1246 24 rfl (by rw [c32]; decide) (by rw [c32]; decide) (by rw [c32]; rfl) (by decide) k) ?_
  have hO := (hop n b I J (xs (x + (1 : Int32)).toNatClampNeg) (xs (x + (2 : Int32)).toNatClampNeg) (xs (x + (3 : Int32)).toNatClampNeg) (xs (x + (4 : Int32)).toNatClampNeg) hI).2.2.2.2.2.2.2.2.2.2.2.2.2.2.2.2.2.2.2.2.2.2.2.2.2.2.2.2.2.2.2.2.1
  obtain ⟨r, I1, J1, I2, J2, hX, hM, hI2⟩ := hO
  exact lc_32 b x _ _ _ _ I J hcs h1 h2 h3 h4 rfl rfl rfl rfl r I1 J1 I2 J2 hX hM (hk _ _ _ _ (by omega) (by omega) hI2)
set_option maxRecDepth 100000 in
theorem lw_c33 {Inv : Nat → Bool → HI → HJ → Prop} (hop : OpAll Inv) {L : Nat} {xs : Nat → Int32} {E : Ex} {cs : Nat × Nat} (n : Nat) (b : Bool) (I : HI) (J : HJ) (hI : Inv (n + 1) b I J) (x v : Int32) (hcs : cs.1 + 2 ≤ 399528 ∧ cs.2 + 59392 ≤ 7902896) (h1 : vp_in (x + (1 : Int32)) L) (h2 : vp_in (x + (2 : Int32)) L) (h3 : vp_in (x + (3 : Int32)) L) (h4 : vp_in (x + (4 : Int32)) L)
    (hk : ∀ (cs' : Nat × Nat) (b' : Bool) (I' : HI) (J' : HJ), cs'.1 ≤ cs.1 + 2 → cs'.2 ≤ cs.2 + 59392 → Inv n b' I' J' → GL L xs E cs' 1721 (lvL x) [] (zs b', I', J')) (c33 : v = 33) : GL L xs E cs 39 (lvL x) [.int v] (zs b, I, J) := by
  refine GL.g (fun _ k => G.tswIn 1296 24 rfl (by rw [c33]; decide) (by rw [c33]; decide) (by rw [c33]; rfl) (by decide) k) ?_
  have hO := (hop n b I J (xs (x + (1 : Int32)).toNatClampNeg) (xs (x + (2 : Int32)).toNatClampNeg) (xs (x + (3 : Int32)).toNatClampNeg) (xs (x + (4 : Int32)).toNatClampNeg) hI).2.2.2.2.2.2.2.2.2.2.2.2.2.2.2.2.2.2.2.2.2.2.2.2.2.2.2.2.2.2.2.2.2.1
  obtain ⟨r, I1, J1, I2, J2, hX, hM, hI2⟩ := hO
  exact lc_33 b x _ _ _ _ I J hcs h1 h2 h3 h4 rfl rfl rfl rfl r I1 J1 I2 J2 hX hM (hk _ _ _ _ (by omega) (by omega) hI2)
set_option maxRecDepth 100000 in
theorem lw_c34 {Inv : Nat → Bool → HI → HJ → Prop} (hop : OpAll Inv) {L : Nat} {xs : Nat → Int32} {E : Ex} {cs : Nat × Nat} (n : Nat) (b : Bool) (I : HI) (J : HJ) (hI : Inv (n + 1) b I J) (x v : Int32) (hcs : cs.1 + 2 ≤ 399528 ∧ cs.2 + 59392 ≤ 7902896) (h1 : vp_in (x + (1 : Int32)) L) (h2 : vp_in (x + (2 : Int32)) L) (h3 : vp_in (x + (3 : Int32)) L) (h4 : vp_in (x + (4 : Int32)) L)
    (hk : ∀ (cs' : Nat × Nat) (b' : Bool) (I' : HI) (J' : HJ), cs'.1 ≤ cs.1 + 2 → cs'.2 ≤ cs.2 + 59392 → Inv n b' I' J' → GL L xs E cs' 1721 (lvL x) [] (zs b', I', J')) (c34 : v = 34) : GL L xs E cs 39 (lvL x) [.int v] (zs b, I, J) := by
  refine GL.g (fun _ k => G.tswIn 1321 24 rfl (by rw [c34]; decide) (by rw [c34]; decide) (by rw [c34]; rfl) (by decide) k) ?_
  have hO := (hop n b I J (xs (x + (1 : Int32)).toNatClampNeg) (xs (x + (2 : Int32)).toNatClampNeg) (xs (x + (3 : Int32)).toNatClampNeg) (xs (x + (4 : Int32)).toNatClampNeg) hI).2.2.2.2.2.2.2.2.2.2.2.2.2.2.2.2.2.2.2.2.2.2.2.2.2.2.2.2.2.2.2.2.2.2.1
  obtain ⟨r, I1, J1, I2, J2, hX, hM, hI2⟩ := hO
  exact lc_34 b x _ _ _ _ I J hcs h1 h2 h3 h4 rfl rfl rfl rfl r I1 J1 I2 J2 hX hM (hk _ _ _ _ (by omega) (by omega) hI2)
set_option maxRecDepth 100000 in
theorem lw_c35 {Inv : Nat → Bool → HI → HJ → Prop} (hop : OpAll Inv) {L : Nat} {xs : Nat → Int32} {E : Ex} {cs : Nat × Nat} (n : Nat) (b : Bool) (I : HI) (J : HJ) (hI : Inv (n + 1) b I J) (x v : Int32) (hcs : cs.1 + 2 ≤ 399528 ∧ cs.2 + 59392 ≤ 7902896) (h1 : vp_in (x + (1 : Int32)) L) (h2 : vp_in (x + (2 : Int32)) L) (h3 : vp_in (x + (3 : Int32)) L) (h4 : vp_in (x + (4 : Int32)) L)
    (hk : ∀ (cs' : Nat × Nat) (b' : Bool) (I' : HI) (J' : HJ), cs'.1 ≤ cs.1 + 2 → cs'.2 ≤ cs.2 + 59392 → Inv n b' I' J' → GL L xs E cs' 1721 (lvL x) [] (zs b', I', J')) (c35 : v = 35) : GL L xs E cs 39 (lvL x) [.int v] (zs b, I, J) := by
  refine GL.g (fun _ k => G.tswIn 1334 24 rfl (by rw [c35]; decide) (by rw [c35]; decide) (by rw [c35]; rfl) (by decide) k) ?_
  have hO := (hop n b I J (xs (x + (1 : Int32)).toNatClampNeg) (xs (x + (2 : Int32)).toNatClampNeg) (xs (x + (3 : Int32)).toNatClampNeg) (xs (x + (4 : Int32)).toNatClampNeg) hI).2.2.2.2.2.2.2.2.2.2.2.2.2.2.2.2.2.2.2.2.2.2.2.2.2.2.2.2.2.2.2.2.2.2.2.1
  obtain ⟨r, I1, J1, I2, J2, hX, hM, hI2⟩ := hO
  exact lc_35 b x _ _ _ _ I J hcs h1 h2 h3 h4 rfl rfl rfl rfl r I1 J1 I2 J2 hX hM (hk _ _ _ _ (by omega) (by omega) hI2)
set_option maxRecDepth 100000 in
theorem lw_c36 {Inv : Nat → Bool → HI → HJ → Prop} (hop : OpAll Inv) {L : Nat} {xs : Nat → Int32} {E : Ex} {cs : Nat × Nat} (n : Nat) (b : Bool) (I : HI) (J : HJ) (hI : Inv (n + 1) b I J) (x v : Int32) (hcs : cs.1 + 2 ≤ 399528 ∧ cs.2 + 59392 ≤ 7902896) (h1 : vp_in (x + (1 : Int32)) L) (h2 : vp_in (x + (2 : Int32)) L) (h3 : vp_in (x + (3 : Int32)) L) (h4 : vp_in (x + (4 : Int32)) L)
    (hk : ∀ (cs' : Nat × Nat) (b' : Bool) (I' : HI) (J' : HJ), cs'.1 ≤ cs.1 + 2 → cs'.2 ≤ cs.2 + 59392 → Inv n b' I' J' → GL L xs E cs' 1721 (lvL x) [] (zs b', I', J')) (c36 : v = 36) : GL L xs E cs 39 (lvL x) [.int v] (zs b, I, J) := by
  refine GL.g (fun _ k => G.tswIn 1371 24 rfl (by rw [c36]; decide) (by rw [c36]; decide) (by rw [c36]; rfl) (by decide) k) ?_
  have hO := (hop n b I J (xs (x + (1 : Int32)).toNatClampNeg) (xs (x + (2 : Int32)).toNatClampNeg) (xs (x + (3 : Int32)).toNatClampNeg) (xs (x + (4 : Int32)).toNatClampNeg) hI).2.2.2.2.2.2.2.2.2.2.2.2.2.2.2.2.2.2.2.2.2.2.2.2.2.2.2.2.2.2.2.2.2.2.2.2.1
  obtain ⟨r, I1, J1, I2, J2, hX, hM, hI2⟩ := hO
  exact lc_36 b x _ _ _ _ I J hcs h1 h2 h3 h4 rfl rfl rfl rfl r I1 J1 I2 J2 hX hM (hk _ _ _ _ (by omega) (by omega) hI2)
set_option maxRecDepth 100000 in
theorem lw_c37 {Inv : Nat → Bool → HI → HJ → Prop} (hop : OpAll Inv) {L : Nat} {xs : Nat → Int32} {E : Ex} {cs : Nat × Nat} (n : Nat) (b : Bool) (I : HI) (J : HJ) (hI : Inv (n + 1) b I J) (x v : Int32) (hcs : cs.1 + 2 ≤ 399528 ∧ cs.2 + 59392 ≤ 7902896) (h1 : vp_in (x + (1 : Int32)) L) (h2 : vp_in (x + (2 : Int32)) L) (h3 : vp_in (x + (3 : Int32)) L) (h4 : vp_in (x + (4 : Int32)) L)
    (hk : ∀ (cs' : Nat × Nat) (b' : Bool) (I' : HI) (J' : HJ), cs'.1 ≤ cs.1 + 2 → cs'.2 ≤ cs.2 + 59392 → Inv n b' I' J' → GL L xs E cs' 1721 (lvL x) [] (zs b', I', J')) (c37 : v = 37) : GL L xs E cs 39 (lvL x) [.int v] (zs b, I, J) := by
  refine GL.g (fun _ k => G.tswIn 1452 24 rfl (by rw [c37]; decide) (by rw [c37]; decide) (by rw [c37]; rfl) (by decide) k) ?_
  have hO := (hop n b I J (xs (x + (1 : Int32)).toNatClampNeg) (xs (x + (2 : Int32)).toNatClampNeg) (xs (x + (3 : Int32)).toNatClampNeg) (xs (x + (4 : Int32)).toNatClampNeg) hI).2.2.2.2.2.2.2.2.2.2.2.2.2.2.2.2.2.2.2.2.2.2.2.2.2.2.2.2.2.2.2.2.2.2.2.2.2.1
  obtain ⟨r, I1, J1, I2, J2, hX, hM, hI2⟩ := hO
  exact lc_37 b x _ _ _ _ I J hcs h1 h2 h3 h4 rfl rfl rfl rfl r I1 J1 I2 J2 hX hM (hk _ _ _ _ (by omega) (by omega) hI2)
set_option maxRecDepth 100000 in
theorem lw_c38 {Inv : Nat → Bool → HI → HJ → Prop} (hop : OpAll Inv) {L : Nat} {xs : Nat → Int32} {E : Ex} {cs : Nat × Nat} (n : Nat) (b : Bool) (I : HI) (J : HJ) (hI : Inv (n + 1) b I J) (x v : Int32) (hcs : cs.1 + 2 ≤ 399528 ∧ cs.2 + 59392 ≤ 7902896) (h1 : vp_in (x + (1 : Int32)) L) (h2 : vp_in (x + (2 : Int32)) L) (h3 : vp_in (x + (3 : Int32)) L) (h4 : vp_in (x + (4 : Int32)) L)
    (hk : ∀ (cs' : Nat × Nat) (b' : Bool) (I' : HI) (J' : HJ), cs'.1 ≤ cs.1 + 2 → cs'.2 ≤ cs.2 + 59392 → Inv n b' I' J' → GL L xs E cs' 1721 (lvL x) [] (zs b', I', J')) (c38 : v = 38) : GL L xs E cs 39 (lvL x) [.int v] (zs b, I, J) := by
  refine GL.g (fun _ k => G.tswIn 1465 24 rfl (by rw [c38]; decide) (by rw [c38]; decide) (by rw [c38]; rfl) (by decide) k) ?_
  have hO := (hop n b I J (xs (x + (1 : Int32)).toNatClampNeg) (xs (x + (2 : Int32)).toNatClampNeg) (xs (x + (3 : Int32)).toNatClampNeg) (xs (x + (4 : Int32)).toNatClampNeg) hI).2.2.2.2.2.2.2.2.2.2.2.2.2.2.2.2.2.2.2.2.2.2.2.2.2.2.2.2.2.2.2.2.2.2.2.2.2.2.1
  obtain ⟨r, I1, J1, I2, J2, hX, hM, hI2⟩ := hO
  exact lc_38 b x _ _ _ _ I J hcs h1 h2 h3 h4 rfl rfl rfl rfl r I1 J1 I2 J2 hX hM (hk _ _ _ _ (by omega) (by omega) hI2)
set_option maxRecDepth 100000 in
theorem lw_c39 {Inv : Nat → Bool → HI → HJ → Prop} (hop : OpAll Inv) {L : Nat} {xs : Nat → Int32} {E : Ex} {cs : Nat × Nat} (n : Nat) (b : Bool) (I : HI) (J : HJ) (hI : Inv (n + 1) b I J) (x v : Int32) (hcs : cs.1 + 2 ≤ 399528 ∧ cs.2 + 59392 ≤ 7902896) (h1 : vp_in (x + (1 : Int32)) L) (h2 : vp_in (x + (2 : Int32)) L) (h3 : vp_in (x + (3 : Int32)) L) (h4 : vp_in (x + (4 : Int32)) L)
    (hk : ∀ (cs' : Nat × Nat) (b' : Bool) (I' : HI) (J' : HJ), cs'.1 ≤ cs.1 + 2 → cs'.2 ≤ cs.2 + 59392 → Inv n b' I' J' → GL L xs E cs' 1721 (lvL x) [] (zs b', I', J')) (c39 : v = 39) : GL L xs E cs 39 (lvL x) [.int v] (zs b, I, J) := by
  refine GL.g (fun _ k => G.tswIn 1478 24 rfl (by rw [c39]; decide) (by rw [c39]; decide) (by rw [c39]; rfl) (by decide) k) ?_
  have hO := (hop n b I J (xs (x + (1 : Int32)).toNatClampNeg) (xs (x + (2 : Int32)).toNatClampNeg) (xs (x + (3 : Int32)).toNatClampNeg) (xs (x + (4 : Int32)).toNatClampNeg) hI).2.2.2.2.2.2.2.2.2.2.2.2.2.2.2.2.2.2.2.2.2.2.2.2.2.2.2.2.2.2.2.2.2.2.2.2.2.2.2.1
  obtain ⟨r, I1, J1, I2, J2, hX, hM, hI2⟩ := hO
  exact lc_39 b x _ _ _ _ I J hcs h1 h2 h3 h4 rfl rfl rfl rfl r I1 J1 I2 J2 hX hM (hk _ _ _ _ (by omega) (by omega) hI2)
set_option maxRecDepth 100000 in
theorem lw_c40 {Inv : Nat → Bool → HI → HJ → Prop} (hop : OpAll Inv) {L : Nat} {xs : Nat → Int32} {E : Ex} {cs : Nat × Nat} (n : Nat) (b : Bool) (I : HI) (J : HJ) (hI : Inv (n + 1) b I J) (x v : Int32) (hcs : cs.1 + 2 ≤ 399528 ∧ cs.2 + 59392 ≤ 7902896) (h1 : vp_in (x + (1 : Int32)) L) (h2 : vp_in (x + (2 : Int32)) L) (h3 : vp_in (x + (3 : Int32)) L) (h4 : vp_in (x + (4 : Int32)) L)
    (hk : ∀ (cs' : Nat × Nat) (b' : Bool) (I' : HI) (J' : HJ), cs'.1 ≤ cs.1 + 2 → cs'.2 ≤ cs.2 + 59392 → Inv n b' I' J' → GL L xs E cs' 1721 (lvL x) [] (zs b', I', J')) (c40 : v = 40) : GL L xs E cs 39 (lvL x) [.int v] (zs b, I, J) := by
  refine GL.g (fun _ k => G.tswIn 1503 24 rfl (by rw [c40]; decide) (by rw [c40]; decide) (by rw [c40]; rfl) (by decide) k) ?_
  have hO := (hop n b I J (xs (x + (1 : Int32)).toNatClampNeg) (xs (x + (2 : Int32)).toNatClampNeg) (xs (x + (3 : Int32)).toNatClampNeg) (xs (x + (4 : Int32)).toNatClampNeg) hI).2.2.2.2.2.2.2.2.2.2.2.2.2.2.2.2.2.2.2.2.2.2.2.2.2.2.2.2.2.2.2.2.2.2.2.2.2.2.2.2.1
  obtain ⟨r, I1, J1, I2, J2, hX, hM, hI2⟩ := hO
  exact lc_40 b x _ _ _ _ I J hcs h1 h2 h3 h4 rfl rfl rfl rfl r I1 J1 I2 J2 hX hM (hk _ _ _ _ (by omega) (by omega) hI2)
set_option maxRecDepth 100000 in
theorem lw_c41 {Inv : Nat → Bool → HI → HJ → Prop} (hop : OpAll Inv) {L : Nat} {xs : Nat → Int32} {E : Ex} {cs : Nat × Nat} (n : Nat) (b : Bool) (I : HI) (J : HJ) (hI : Inv (n + 1) b I J) (x v : Int32) (hcs : cs.1 + 2 ≤ 399528 ∧ cs.2 + 59392 ≤ 7902896) (h1 : vp_in (x + (1 : Int32)) L) (h2 : vp_in (x + (2 : Int32)) L) (h3 : vp_in (x + (3 : Int32)) L) (h4 : vp_in (x + (4 : Int32)) L)
    (hk : ∀ (cs' : Nat × Nat) (b' : Bool) (I' : HI) (J' : HJ), cs'.1 ≤ cs.1 + 2 → cs'.2 ≤ cs.2 + 59392 → Inv n b' I' J' → GL L xs E cs' 1721 (lvL x) [] (zs b', I', J')) (c41 : v = 41) : GL L xs E cs 39 (lvL x) [.int v] (zs b, I, J) := by
  refine GL.g (fun _ k => G.tswIn 1516 24 rfl (by rw [c41]; decide) (by rw [c41]; decide) (by rw [c41]; rfl) (by decide) k) ?_
  have hO := (hop n b I J (xs (x + (1 : Int32)).toNatClampNeg) (xs (x + (2 : Int32)).toNatClampNeg) (xs (x + (3 : Int32)).toNatClampNeg) (xs (x + (4 : Int32)).toNatClampNeg) hI).2.2.2.2.2.2.2.2.2.2.2.2.2.2.2.2.2.2.2.2.2.2.2.2.2.2.2.2.2.2.2.2.2.2.2.2.2.2.2.2.2.1
  obtain ⟨r, I1, J1, I2, J2, hX, hM, hI2⟩ := hO
  exact lc_41 b x _ _ _ _ I J hcs h1 h2 h3 h4 rfl rfl rfl rfl r I1 J1 I2 J2 hX hM (hk _ _ _ _ (by omega) (by omega) hI2)
set_option maxRecDepth 100000 in
theorem lw_c42 {Inv : Nat → Bool → HI → HJ → Prop} (hop : OpAll Inv) {L : Nat} {xs : Nat → Int32} {E : Ex} {cs : Nat × Nat} (n : Nat) (b : Bool) (I : HI) (J : HJ) (hI : Inv (n + 1) b I J) (x v : Int32) (hcs : cs.1 + 2 ≤ 399528 ∧ cs.2 + 59392 ≤ 7902896) (h1 : vp_in (x + (1 : Int32)) L) (h2 : vp_in (x + (2 : Int32)) L) (h3 : vp_in (x + (3 : Int32)) L) (h4 : vp_in (x + (4 : Int32)) L)
    (hk : ∀ (cs' : Nat × Nat) (b' : Bool) (I' : HI) (J' : HJ), cs'.1 ≤ cs.1 + 2 → cs'.2 ≤ cs.2 + 59392 → Inv n b' I' J' → GL L xs E cs' 1721 (lvL x) [] (zs b', I', J')) (c42 : v = 42) : GL L xs E cs 39 (lvL x) [.int v] (zs b, I, J) := by
  refine GL.g (fun _ k => G.tswIn 1553 24 rfl (by rw [c42]; decide) (by rw [c42]; decide) (by rw [c42]; rfl) (by decide) k) ?_
  have hO := (hop n b I J (xs (x + (1 : Int32)).toNatClampNeg) (xs (x + (2 : Int32)).toNatClampNeg) (xs (x + (3 : Int32)).toNatClampNeg) (xs (x + (4 : Int32)).toNatClampNeg) hI).2.2.2.2.2.2.2.2.2.2.2.2.2.2.2.2.2.2.2.2.2.2.2.2.2.2.2.2.2.2.2.2.2.2.2.2.2.2.2.2.2.2.1
  cases b with
  | true =>
    obtain ⟨r, I1, J1, I2, J2, hX, hM, hI2⟩ := hO.1 rfl
    exact lc_42t x _ _ _ _ I J hcs h1 h2 h3 h4 rfl rfl rfl rfl r I1 J1 I2 J2 hX hM (hk _ _ _ _ (by omega) (by omega) hI2)
  | false =>
    obtain ⟨b', r, I1, J1, I2, J2, hX, hM, hI2⟩ := hO.2 rfl
    exact lc_42f b' x _ _ _ _ I J hcs h1 h2 h3 h4 rfl rfl rfl rfl r I1 J1 I2 J2 hX hM (hk _ _ _ _ (by show cs.1 + 2 ≤ _; omega) (by show cs.2 + 59392 ≤ _; omega) hI2)
set_option maxRecDepth 100000 in
theorem lw_c43 {Inv : Nat → Bool → HI → HJ → Prop} (hop : OpAll Inv) {L : Nat} {xs : Nat → Int32} {E : Ex} {cs : Nat × Nat} (n : Nat) (b : Bool) (I : HI) (J : HJ) (hI : Inv (n + 1) b I J) (x v : Int32) (hcs : cs.1 + 2 ≤ 399528 ∧ cs.2 + 59392 ≤ 7902896) (h1 : vp_in (x + (1 : Int32)) L) (h2 : vp_in (x + (2 : Int32)) L) (h3 : vp_in (x + (3 : Int32)) L) (h4 : vp_in (x + (4 : Int32)) L)
    (hk : ∀ (cs' : Nat × Nat) (b' : Bool) (I' : HI) (J' : HJ), cs'.1 ≤ cs.1 + 2 → cs'.2 ≤ cs.2 + 59392 → Inv n b' I' J' → GL L xs E cs' 1721 (lvL x) [] (zs b', I', J')) (c43 : v = 43) : GL L xs E cs 39 (lvL x) [.int v] (zs b, I, J) := by
  refine GL.g (fun _ k => G.tswIn 1566 24 rfl (by rw [c43]; decide) (by rw [c43]; decide) (by rw [c43]; rfl) (by decide) k) ?_
  have hO := (hop n b I J (xs (x + (1 : Int32)).toNatClampNeg) (xs (x + (2 : Int32)).toNatClampNeg) (xs (x + (3 : Int32)).toNatClampNeg) (xs (x + (4 : Int32)).toNatClampNeg) hI).2.2.2.2.2.2.2.2.2.2.2.2.2.2.2.2.2.2.2.2.2.2.2.2.2.2.2.2.2.2.2.2.2.2.2.2.2.2.2.2.2.2.2.1
  cases b with
  | true =>
    obtain ⟨r, I1, J1, I2, J2, hX, hM, hI2⟩ := hO.1 rfl
    exact lc_43t x _ _ _ _ I J hcs h1 h2 h3 h4 rfl rfl rfl rfl r I1 J1 I2 J2 hX hM (hk _ _ _ _ (by omega) (by omega) hI2)
  | false =>
    obtain ⟨b', r, I1, J1, I2, J2, hX, hM, hI2⟩ := hO.2 rfl
    exact lc_43f b' x _ _ _ _ I J hcs h1 h2 h3 h4 rfl rfl rfl rfl r I1 J1 I2 J2 hX hM (hk _ _ _ _ (by show cs.1 + 2 ≤ _; omega) (by show cs.2 + 59392 ≤ _; omega) hI2)
set_option maxRecDepth 100000 in
theorem lw_c44 {Inv : Nat → Bool → HI → HJ → Prop} (hop : OpAll Inv) {L : Nat} {xs : Nat → Int32} {E : Ex} {cs : Nat × Nat} (n : Nat) (b : Bool) (I : HI) (J : HJ) (hI : Inv (n + 1) b I J) (x v : Int32) (hcs : cs.1 + 2 ≤ 399528 ∧ cs.2 + 59392 ≤ 7902896) (h1 : vp_in (x + (1 : Int32)) L) (h2 : vp_in (x + (2 : Int32)) L) (h3 : vp_in (x + (3 : Int32)) L) (h4 : vp_in (x + (4 : Int32)) L)
    (hk : ∀ (cs' : Nat × Nat) (b' : Bool) (I' : HI) (J' : HJ), cs'.1 ≤ cs.1 + 2 → cs'.2 ≤ cs.2 + 59392 → Inv n b' I' J' → GL L xs E cs' 1721 (lvL x) [] (zs b', I', J')) (c44 : v = 44) : GL L xs E cs 39 (lvL x) [.int v] (zs b, I, J) := by
  refine GL.g (fun _ k => G.tswIn 1591 24 rfl (by rw [c44]; decide) (by rw [c44]; decide) (by rw [c44]; rfl) (by decide) k) ?_
  have hO := (hop n b I J (xs (x + (1 : Int32)).toNatClampNeg) (xs (x + (2 : Int32)).toNatClampNeg) (xs (x + (3 : Int32)).toNatClampNeg) (xs (x + (4 : Int32)).toNatClampNeg) hI).2.2.2.2.2.2.2.2.2.2.2.2.2.2.2.2.2.2.2.2.2.2.2.2.2.2.2.2.2.2.2.2.2.2.2.2.2.2.2.2.2.2.2.2.1
  obtain ⟨r, I1, J1, I2, J2, hX, hM, hI2⟩ := hO
  exact lc_44 b x _ _ _ _ I J hcs h1 h2 h3 h4 rfl rfl rfl rfl r I1 J1 I2 J2 hX hM (hk _ _ _ _ (by omega) (by omega) hI2)
set_option maxRecDepth 100000 in
theorem lw_c45 {Inv : Nat → Bool → HI → HJ → Prop} (hop : OpAll Inv) {L : Nat} {xs : Nat → Int32} {E : Ex} {cs : Nat × Nat} (n : Nat) (b : Bool) (I : HI) (J : HJ) (hI : Inv (n + 1) b I J) (x v : Int32) (hcs : cs.1 + 2 ≤ 399528 ∧ cs.2 + 59392 ≤ 7902896) (h1 : vp_in (x + (1 : Int32)) L) (h2 : vp_in (x + (2 : Int32)) L) (h3 : vp_in (x + (3 : Int32)) L) (h4 : vp_in (x + (4 : Int32)) L)
    (hk : ∀ (cs' : Nat × Nat) (b' : Bool) (I' : HI) (J' : HJ), cs'.1 ≤ cs.1 + 2 → cs'.2 ≤ cs.2 + 59392 → Inv n b' I' J' → GL L xs E cs' 1721 (lvL x) [] (zs b', I', J')) (c45 : v = 45) : GL L xs E cs 39 (lvL x) [.int v] (zs b, I, J) := by
  refine GL.g (fun _ k => G.tswIn 1616 24 rfl (by rw [c45]; decide) (by rw [c45]; decide) (by rw [c45]; rfl) (by decide) k) ?_
  have hO := (hop n b I J (xs (x + (1 : Int32)).toNatClampNeg) (xs (x + (2 : Int32)).toNatClampNeg) (xs (x + (3 : Int32)).toNatClampNeg) (xs (x + (4 : Int32)).toNatClampNeg) hI).2.2.2.2.2.2.2.2.2.2.2.2.2.2.2.2.2.2.2.2.2.2.2.2.2.2.2.2.2.2.2.2.2.2.2.2.2.2.2.2.2.2.2.2.2.1
  obtain ⟨r, I1, J1, I2, J2, hX, hM, hI2⟩ := hO
  exact lc_45 b x _ _ _ _ I J hcs h1 h2 h3 h4 rfl rfl rfl rfl r I1 J1 I2 J2 hX hM (hk _ _ _ _ (by omega) (by omega) hI2)
set_option maxRecDepth 100000 in
theorem lw_c46 {Inv : Nat → Bool → HI → HJ → Prop} (hop : OpAll Inv) {L : Nat} {xs : Nat → Int32} {E : Ex} {cs : Nat × Nat} (n : Nat) (b : Bool) (I : HI) (J : HJ) (hI : Inv (n + 1) b I J) (x v : Int32) (hcs : cs.1 + 2 ≤ 399528 ∧ cs.2 + 59392 ≤ 7902896) (h1 : vp_in (x + (1 : Int32)) L) (h2 : vp_in (x + (2 : Int32)) L) (h3 : vp_in (x + (3 : Int32)) L) (h4 : vp_in (x + (4 : Int32)) L)
    (hk : ∀ (cs' : Nat × Nat) (b' : Bool) (I' : HI) (J' : HJ), cs'.1 ≤ cs.1 + 2 → cs'.2 ≤ cs.2 + 59392 → Inv n b' I' J' → GL L xs E cs' 1721 (lvL x) [] (zs b', I', J')) (c46 : v = 46) : GL L xs E cs 39 (lvL x) [.int v] (zs b, I, J) := by
  refine GL.g (fun _ k => G.tswIn 1641 24 rfl (by rw [c46]; decide) (by rw [c46]; decide) (by rw [c46]; rfl) (by decide) k) ?_
  have hO := (hop n b I J (xs (x + (1 : Int32)).toNatClampNeg) (xs (x + (2 : Int32)).toNatClampNeg) (xs (x + (3 : Int32)).toNatClampNeg) (xs (x + (4 : Int32)).toNatClampNeg) hI).2.2.2.2.2.2.2.2.2.2.2.2.2.2.2.2.2.2.2.2.2.2.2.2.2.2.2.2.2.2.2.2.2.2.2.2.2.2.2.2.2.2.2.2.2.2.1
  obtain ⟨r, I2, J2, hX, hM, hI2⟩ := hO
  exact lc_46 b x _ _ _ _ I J hcs h1 h2 h3 h4 rfl rfl rfl rfl r I2 J2 hX hM (hk _ _ _ _ (by omega) (by omega) hI2)
set_option maxRecDepth 100000 in
theorem lw_c47 {Inv : Nat → Bool → HI → HJ → Prop} (hop : OpAll Inv) {L : Nat} {xs : Nat → Int32} {E : Ex} {cs : Nat × Nat} (n : Nat) (b : Bool) (I : HI) (J : HJ) (hI : Inv (n + 1) b I J) (x v : Int32) (hcs : cs.1 + 2 ≤ 399528 ∧ cs.2 + 59392 ≤ 7902896) (h1 : vp_in (x + (1 : Int32)) L) (h2 : vp_in (x + (2 : Int32)) L) (h3 : vp_in (x + (3 : Int32)) L) (h4 : vp_in (x + (4 : Int32)) L)
    (hk : ∀ (cs' : Nat × Nat) (b' : Bool) (I' : HI) (J' : HJ), cs'.1 ≤ cs.1 + 2 → cs'.2 ≤ cs.2 + 59392 → Inv n b' I' J' → GL L xs E cs' 1721 (lvL x) [] (zs b', I', J')) (c47 : v = 47) : GL L xs E cs 39 (lvL x) [.int v] (zs b, I, J) := by
  refine GL.g (fun _ k => G.tswIn 1666 24 rfl (by rw [c47]; decide) (by rw [c47]; decide) (by rw [c47]; rfl) (by decide) k) ?_
  have hO := (hop n b I J (xs (x + (1 : Int32)).toNatClampNeg) (xs (x + (2 : Int32)).toNatClampNeg) (xs (x + (3 : Int32)).toNatClampNeg) (xs (x + (4 : Int32)).toNatClampNeg) hI).2.2.2.2.2.2.2.2.2.2.2.2.2.2.2.2.2.2.2.2.2.2.2.2.2.2.2.2.2.2.2.2.2.2.2.2.2.2.2.2.2.2.2.2.2.2.2
  rcases hO with ⟨w, v9, I2, J2, hX, hM, hT, hJ, hv, hI2⟩ | ⟨v9, I2, J2, hX, hM, hT, hI2⟩
  · exact lc_47some b x _ _ _ _ I J hcs h1 h2 h3 h4 rfl rfl rfl rfl w v9 I2 J2 hX hM hT hJ hv (hk _ _ _ _ (by show cs.1 + 1 ≤ _; omega) (by show cs.2 + 6 ≤ _; omega) hI2)
  · exact lc_47none b x _ _ _ _ I J hcs h1 h2 h3 h4 rfl rfl rfl rfl v9 I2 J2 hX hM hT (hk _ _ _ _ (by show cs.1 + 1 ≤ _; omega) (by show cs.2 + 6 ≤ _; omega) hI2)
set_option maxRecDepth 100000 in
theorem lw_sw {Inv : Nat → Bool → HI → HJ → Prop} (hop : OpAll Inv) (hdn : ∀ n b I J, Inv (n + 1) b I J → Inv n b I J) {L : Nat} {xs : Nat → Int32} {E : Ex} {cs : Nat × Nat} (n : Nat) (b : Bool) (I : HI) (J : HJ) (hI : Inv (n + 1) b I J) (x v : Int32) (hcs : cs.1 + 2 ≤ 399528 ∧ cs.2 + 59392 ≤ 7902896) (h1 : vp_in (x + (1 : Int32)) L) (h2 : vp_in (x + (2 : Int32)) L) (h3 : vp_in (x + (3 : Int32)) L) (h4 : vp_in (x + (4 : Int32)) L)
    (hk : ∀ (cs' : Nat × Nat) (b' : Bool) (I' : HI) (J' : HJ), cs'.1 ≤ cs.1 + 2 → cs'.2 ≤ cs.2 + 59392 → Inv n b' I' J' → GL L xs E cs' 1721 (lvL x) [] (zs b', I', J')) : GL L xs E cs 39 (lvL x) [.int v] (zs b, I, J) := by
  by_cases c0 : v = 0
  · exact lw_c0 hop n b I J hI x v hcs h1 h2 h3 h4 hk c0
  by_cases c1 : v = 1
  · exact lw_c1 hop n b I J hI x v hcs h1 h2 h3 h4 hk c1
  by_cases c2 : v = 2
  · exact lw_c2 hop n b I J hI x v hcs h1 h2 h3 h4 hk c2
  by_cases c3 : v = 3
  · exact lw_c3 hop n b I J hI x v hcs h1 h2 h3 h4 hk c3
  by_cases c4 : v = 4
  · exact lw_c4 hop n b I J hI x v hcs h1 h2 h3 h4 hk c4
  by_cases c5 : v = 5
  · exact lw_c5 hop n b I J hI x v hcs h1 h2 h3 h4 hk c5
  by_cases c6 : v = 6
  · exact lw_c6 hop n b I J hI x v hcs h1 h2 h3 h4 hk c6
  by_cases c7 : v = 7
  · exact lw_c7 hop n b I J hI x v hcs h1 h2 h3 h4 hk c7
  by_cases c8 : v = 8
  · exact lw_c8 hop n b I J hI x v hcs h1 h2 h3 h4 hk c8
  by_cases c9 : v = 9
  · exact lw_c9 hop n b I J hI x v hcs h1 h2 h3 h4 hk c9
  by_cases c10 : v = 10
  · exact lw_c10 hop n b I J hI x v hcs h1 h2 h3 h4 hk c10
  by_cases c11 : v = 11
  · exact lw_c11 hop n b I J hI x v hcs h1 h2 h3 h4 hk c11
  by_cases c12 : v = 12
  · exact lw_c12 hop n b I J hI x v hcs h1 h2 h3 h4 hk c12
  by_cases c13 : v = 13
  · exact lw_c13 hop n b I J hI x v hcs h1 h2 h3 h4 hk c13
  by_cases c14 : v = 14
  · exact lw_c14 hop n b I J hI x v hcs h1 h2 h3 h4 hk c14
  by_cases c15 : v = 15
  · exact lw_c15 hop n b I J hI x v hcs h1 h2 h3 h4 hk c15
  by_cases c16 : v = 16
  · exact lw_c16 hop n b I J hI x v hcs h1 h2 h3 h4 hk c16
  by_cases c17 : v = 17
  · exact lw_c17 hop n b I J hI x v hcs h1 h2 h3 h4 hk c17
  by_cases c18 : v = 18
  · exact lw_c18 hop n b I J hI x v hcs h1 h2 h3 h4 hk c18
  by_cases c19 : v = 19
  · exact lw_c19 hop n b I J hI x v hcs h1 h2 h3 h4 hk c19
  by_cases c20 : v = 20
  · exact lw_c20 hop n b I J hI x v hcs h1 h2 h3 h4 hk c20
  by_cases c21 : v = 21
  · exact lw_c21 hop n b I J hI x v hcs h1 h2 h3 h4 hk c21
  by_cases c22 : v = 22
  · exact lw_c22 hop n b I J hI x v hcs h1 h2 h3 h4 hk c22
  by_cases c23 : v = 23
  · exact lw_c23 hop n b I J hI x v hcs h1 h2 h3 h4 hk c23
  by_cases c24 : v = 24
  · exact lw_c24 hop n b I J hI x v hcs h1 h2 h3 h4 hk c24
  by_cases c25 : v = 25
  · exact lw_c25 hop n b I J hI x v hcs h1 h2 h3 h4 hk c25
  by_cases c26 : v = 26
  · exact lw_c26 hop n b I J hI x v hcs h1 h2 h3 h4 hk c26
  by_cases c27 : v = 27
  · exact lw_c27 hop n b I J hI x v hcs h1 h2 h3 h4 hk c27
  by_cases c28 : v = 28
  · exact lw_c28 hop n b I J hI x v hcs h1 h2 h3 h4 hk c28
  by_cases c29 : v = 29
  · exact lw_c29 hop n b I J hI x v hcs h1 h2 h3 h4 hk c29
  by_cases c30 : v = 30
  · exact lw_c30 hop n b I J hI x v hcs h1 h2 h3 h4 hk c30
  by_cases c31 : v = 31
  · exact lw_c31 hop n b I J hI x v hcs h1 h2 h3 h4 hk c31
  by_cases c32 : v = 32
  · exact lw_c32 hop n b I J hI x v hcs h1 h2 h3 h4 hk c32
  by_cases c33 : v = 33
  · exact lw_c33 hop n b I J hI x v hcs h1 h2 h3 h4 hk c33
  by_cases c34 : v = 34
  · exact lw_c34 hop n b I J hI x v hcs h1 h2 h3 h4 hk c34
  by_cases c35 : v = 35
  · exact lw_c35 hop n b I J hI x v hcs h1 h2 h3 h4 hk c35
  by_cases c36 : v = 36
  · exact lw_c36 hop n b I J hI x v hcs h1 h2 h3 h4 hk c36
  by_cases c37 : v = 37
  · exact lw_c37 hop n b I J hI x v hcs h1 h2 h3 h4 hk c37
  by_cases c38 : v = 38
  · exact lw_c38 hop n b I J hI x v hcs h1 h2 h3 h4 hk c38
  by_cases c39 : v = 39
  · exact lw_c39 hop n b I J hI x v hcs h1 h2 h3 h4 hk c39
  by_cases c40 : v = 40
  · exact lw_c40 hop n b I J hI x v hcs h1 h2 h3 h4 hk c40
  by_cases c41 : v = 41
  · exact lw_c41 hop n b I J hI x v hcs h1 h2 h3 h4 hk c41
  by_cases c42 : v = 42
  · exact lw_c42 hop n b I J hI x v hcs h1 h2 h3 h4 hk c42
  by_cases c43 : v = 43
  · exact lw_c43 hop n b I J hI x v hcs h1 h2 h3 h4 hk c43
  by_cases c44 : v = 44
  · exact lw_c44 hop n b I J hI x v hcs h1 h2 h3 h4 hk c44
  by_cases c45 : v = 45
  · exact lw_c45 hop n b I J hI x v hcs h1 h2 h3 h4 hk c45
  by_cases c46 : v = 46
  · exact lw_c46 hop n b I J hI x v hcs h1 h2 h3 h4 hk c46
  by_cases c47 : v = 47
  · exact lw_c47 hop n b I J hI x v hcs h1 h2 h3 h4 hk c47
  refine GL.g (fun _ k => G.tswOut 1721 24 rfl (tsw_out 0 47 (fun n g1 g2 => ?_)) (by decide) k) ?_
  · have h9 : n = 0 ∨ n = 1 ∨ n = 2 ∨ n = 3 ∨ n = 4 ∨ n = 5 ∨ n = 6 ∨ n = 7 ∨ n = 8 ∨ n = 9 ∨ n = 10 ∨ n = 11 ∨ n = 12 ∨ n = 13 ∨ n = 14 ∨ n = 15 ∨ n = 16 ∨ n = 17 ∨ n = 18 ∨ n = 19 ∨ n = 20 ∨ n = 21 ∨ n = 22 ∨ n = 23 ∨ n = 24 ∨ n = 25 ∨ n = 26 ∨ n = 27 ∨ n = 28 ∨ n = 29 ∨ n = 30 ∨ n = 31 ∨ n = 32 ∨ n = 33 ∨ n = 34 ∨ n = 35 ∨ n = 36 ∨ n = 37 ∨ n = 38 ∨ n = 39 ∨ n = 40 ∨ n = 41 ∨ n = 42 ∨ n = 43 ∨ n = 44 ∨ n = 45 ∨ n = 46 ∨ n = 47 := by omega
    rcases h9 with rfl | rfl | rfl | rfl | rfl | rfl | rfl | rfl | rfl | rfl | rfl | rfl | rfl | rfl | rfl | rfl | rfl | rfl | rfl | rfl | rfl | rfl | rfl | rfl | rfl | rfl | rfl | rfl | rfl | rfl | rfl | rfl | rfl | rfl | rfl | rfl | rfl | rfl | rfl | rfl | rfl | rfl | rfl | rfl | rfl | rfl | rfl | rfl
    · exact c0
    · exact c1
    · exact c2
    · exact c3
    · exact c4
    · exact c5
    · exact c6
    · exact c7
    · exact c8
    · exact c9
    · exact c10
    · exact c11
    · exact c12
    · exact c13
    · exact c14
    · exact c15
    · exact c16
    · exact c17
    · exact c18
    · exact c19
    · exact c20
    · exact c21
    · exact c22
    · exact c23
    · exact c24
    · exact c25
    · exact c26
    · exact c27
    · exact c28
    · exact c29
    · exact c30
    · exact c31
    · exact c32
    · exact c33
    · exact c34
    · exact c35
    · exact c36
    · exact c37
    · exact c38
    · exact c39
    · exact c40
    · exact c41
    · exact c42
    · exact c43
    · exact c44
    · exact c45
    · exact c46
    · exact c47
  exact hk cs b I J (by omega) (by omega) (hdn n b I J hI)
def lawE : Ex := fun cs pc _ st _ => pc = 1728 ∧ st = [.int 1] ∧ cs.1 ≤ 399528 ∧ cs.2 ≤ 7902896
theorem lt_L5 {i L : Nat} (hi : i ≤ 400) (hL : L ≤ 400) : (Int32.ofNat L - (5 : Int32) < Int32.ofNat i) ↔ L < i + 5 := by
  have h5 : (5 : Int32).toInt = 5 := by decide
  have hl : (Int32.ofNat L).toInt = (L : Int) := nI_toInt (by omega)
  have hii : (Int32.ofNat i).toInt = (i : Int) := nI_toInt (by omega)
  have hs : (Int32.ofNat L - (5 : Int32)).toInt = (L : Int) - 5 := by
    rw [Int32.toInt_sub, hl, h5, Int.bmod_eq_of_le] <;> omega
  rw [Int32.lt_iff_toInt_lt, hs, hii]
  omega
def bud : Nat → Nat
  | 0 => 0
  | n + 1 => bud n + 59392
theorem bud_s (n : Nat) : bud (n + 1) = bud n + 59392 := rfl
set_option maxRecDepth 100000 in
theorem law_loop {Inv : Nat → Bool → HI → HJ → Prop} (hop : OpAll Inv) (hdn : ∀ n b I J, Inv (n + 1) b I J → Inv n b I J) {L : Nat} {xs : Nat → Int32} (hL : L ≤ 320) : ∀ (n i : Nat) (cs : Nat × Nat) (b : Bool) (I : HI) (J : HJ), i ≤ 330 → L < i + 5 * n + 5 → cs.1 + 2 * n ≤ 399000 → cs.2 + bud n ≤ 7800000 → Inv n b I J → GL L xs lawE cs 23 (lvL (Int32.ofNat i)) [] (zs b, I, J) := by
  intro n
  induction n with
  | zero =>
    intro i cs b I J hi hn h1 h2 hI
    refine GL.g (fun _ k => G.iload 13 4 rfl rfl k) ?_
    refine GL.g (fun _ k => G.aload_n 14 0 rfl rfl k) ?_
    refine GL.slen 15 rfl ?_
    refine GL.g (fun _ k => G.iconst (5 : Int32) 16 rfl (by decide) k) ?_
    refine GL.g (fun _ k => G.isub 17 rfl k) ?_
    refine GL.g (fun _ k => G.icmp_gt 1727 18 rfl (by decide) (fun _ => k) (fun q => absurd ((lt_L5 (by omega) (by omega)).mpr (by omega)) q)) ?_
    refine GL.g (fun _ k => G.iconst (1 : Int32) 1041 rfl (by decide) k) ?_
    exact GL.exit ⟨rfl, rfl, by omega, by omega⟩
  | succ n ih =>
    intro i cs b I J hi hn h1 h2 hI
    rw [bud_s] at h2
    generalize hbu : bud n = bu at h2
    have hih : ∀ (i : Nat) (cs : Nat × Nat) (b : Bool) (I : HI) (J : HJ), i ≤ 330 → L < i + 5 * n + 5 → cs.1 + 2 * n ≤ 399000 → cs.2 + bu ≤ 7800000 → Inv n b I J → GL L xs lawE cs 23 (lvL (Int32.ofNat i)) [] (zs b, I, J) := by rw [← hbu]; exact ih
    clear hbu ih
    refine GL.g (fun _ k => G.iload 13 4 rfl rfl k) ?_
    refine GL.g (fun _ k => G.aload_n 14 0 rfl rfl k) ?_
    refine GL.slen 15 rfl ?_
    refine GL.g (fun _ k => G.iconst (5 : Int32) 16 rfl (by decide) k) ?_
    refine GL.g (fun _ k => G.isub 17 rfl k) ?_
    by_cases hc : L < i + 5
    · refine GL.g (fun _ k => G.icmp_gt 1727 18 rfl (by decide) (fun _ => k) (fun q => absurd ((lt_L5 (by omega) (by omega)).mpr hc) q)) ?_
      refine GL.g (fun _ k => G.iconst (1 : Int32) 1041 rfl (by decide) k) ?_
      exact GL.exit ⟨rfl, rfl, by omega, by omega⟩
    · refine GL.g (fun _ k => G.icmp_gt 1727 18 rfl (by decide) (fun q => absurd ((lt_L5 (by omega) (by omega)).mp q) hc) (fun _ => k)) ?_
      refine GL.g (fun _ k => G.aload_n 19 0 rfl rfl k) ?_
      refine GL.g (fun _ k => G.iload 20 4 rfl rfl k) ?_
      refine GL.sld 21 rfl (vp_in_nI (by omega) (by omega)) rfl ?_
      refine GL.g (fun _ k => G.bipush (63 : Int32) 22 rfl (by decide) k) ?_
      refine GL.g (fun _ k => G.iand 23 rfl k) ?_
      have hin : ∀ j : Nat, j < 5 → vp_in (Int32.ofNat i + Int32.ofNat j) L := fun j hj => by
        rw [show Int32.ofNat i + Int32.ofNat j = Int32.ofNat (i + j) from nI_add i j]
        exact vp_in_nI (by omega) (by omega)
      have hq1 : cs.1 + 2 ≤ 399528 := by omega
      have hq2 : cs.2 + 59392 ≤ 7902896 := Nat.le_trans (Nat.add_le_add_left (Nat.le_add_left _ _) _) (Nat.le_trans h2 (Nat.le_of_ble_eq_true rfl))
      refine lw_sw hop hdn n b I J hI (Int32.ofNat i) (xs (Int32.ofNat i).toNatClampNeg &&& (63 : Int32)) ⟨hq1, hq2⟩ (hin 1 (by omega)) (hin 2 (by omega)) (hin 3 (by omega)) (hin 4 (by omega)) ?_
      intro cs' b' I' J' g1 g2 hI'
      refine GL.g (fun _ k => G.iinc (Int32.ofNat (i + 5)) [(4, .int (Int32.ofNat (i + 5))), (0, .ref scx), (1, .ref 0), (2, .ref 81), (3, .ref 128)] 1039 4 rfl rfl (nI_add i 5) (by decide) rfl k) ?_
      refine GL.g (fun _ k => G.goto 23 1040 rfl (by decide) k) ?_
      refine GL.g (fun _ k => G.sub (lv' := lvL (Int32.ofNat (i + 5))) [1, 2, 3, 4, 0] rfl k) ?_
      have hq3 : cs'.2 + bu ≤ 7800000 := Nat.le_trans (Nat.add_le_add_right g2 bu) (by rw [Nat.add_assoc, Nat.add_comm _ bu]; exact h2)
      exact hih (i + 5) cs' b' I' J' (by omega) (by omega) (by clear h2 hq2 hq3 g2; omega) hq3 hI'

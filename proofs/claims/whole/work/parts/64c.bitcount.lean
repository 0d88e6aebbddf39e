/-! LAYER 2: how many bits -/
theorem bc64 (x : Int64) : F_J13_bitCount_95d88 x = some (Int32.ofNat (pc x)) := by
  unfold F_J13_bitCount_95d88
  simp only [lb]
  congr 1
  obtain ⟨a, ha⟩ : ∃ a, a = x - ((olushr x (1 : Int32)) &&& (6148914691236517205 : Int64)) := ⟨_, rfl⟩
  rw [← ha]
  obtain ⟨b, hb⟩ : ∃ b, b = (a &&& (3689348814741910323 : Int64)) + ((olushr a (2 : Int32)) &&& (3689348814741910323 : Int64)) := ⟨_, rfl⟩
  rw [← hb]
  obtain ⟨c, hc⟩ : ∃ c, c = (b + (olushr b (4 : Int32))) &&& (1085102592571150095 : Int64) := ⟨_, rfl⟩
  rw [← hc]
  obtain ⟨d, hd⟩ : ∃ d, d = c + (olushr c (8 : Int32)) := ⟨_, rfl⟩
  rw [← hd]
  obtain ⟨e, he⟩ : ∃ e, e = d + (olushr d (16 : Int32)) := ⟨_, rfl⟩
  rw [← he]
  obtain ⟨f, hf⟩ : ∃ f, f = e + (olushr e (32 : Int32)) := ⟨_, rfl⟩
  rw [← hf]
  have s1' : tn (olushr x (1 : Int32)) = tn x / 2 := tn_shr (j := 1) (by decide)
  have m5 : tn (6148914691236517205 : Int64) = mk8 85 8 := by decide
  have m3 : tn (3689348814741910323 : Int64) = mk8 51 8 := by decide
  have m0 : tn (1085102592571150095 : Int64) = mk8 15 8 := by decide
  have ea : tn a = s1 8 (tn x) := by
    have : tn ((olushr x (1 : Int32)) &&& (6148914691236517205 : Int64)) ≤ tn x := by
      rw [tn_and, s1']; exact Nat.le_trans Nat.and_le_left (Nat.div_le_self _ 2)
    rw [ha, tn_sub this, tn_and, s1', m5]; rfl
  have v3 : mk8 51 8 = 3689348814741910323 := by decide
  have v0 : mk8 15 8 = 1085102592571150095 := by decide
  have eb : tn b = s2 8 (tn a) ∧ tn b ≤ 7378697629483820646 := by
    have q1 : tn (a &&& (3689348814741910323 : Int64)) ≤ 3689348814741910323 := by rw [tn_and, m3, v3]; exact Nat.and_le_right
    have q2 : tn ((olushr a (2 : Int32)) &&& (3689348814741910323 : Int64)) ≤ 3689348814741910323 := by rw [tn_and, m3, v3]; exact Nat.and_le_right
    have q3 := tn_add (x := a &&& (3689348814741910323 : Int64)) (y := (olushr a (2 : Int32)) &&& (3689348814741910323 : Int64)) (by omega)
    refine ⟨?_, by rw [hb, q3]; omega⟩
    rw [hb, q3, tn_and, tn_and, m3, show tn (olushr a (2 : Int32)) = tn a / 4 from tn_shr (j := 2) (by decide)]; rfl
  have ec : tn c = s3 8 (tn b) ∧ tn c ≤ 1085102592571150095 := by
    have q0 : tn (olushr b (4 : Int32)) = tn b / 16 := tn_shr (j := 4) (by decide)
    have q3 := tn_add (x := b) (y := olushr b (4 : Int32)) (by rw [q0]; omega)
    refine ⟨?_, by rw [hc, tn_and, m0, v0]; exact Nat.and_le_right⟩
    rw [hc, tn_and, q3, q0, m0]; rfl
  have eu : tn c = uu 8 (tn x) := by rw [ec.1, eb.1, ea]; rfl
  rw [uu_8] at eu
  have q8 : tn (olushr c (8 : Int32)) = tn c / 256 := tn_shr (j := 8) (by decide)
  have q16 : tn (olushr d (16 : Int32)) = tn d / 65536 := tn_shr (j := 16) (by decide)
  have q32 : tn (olushr e (32 : Int32)) = tn e / 4294967296 := tn_shr (j := 32) (by decide)
  obtain ⟨w1, w2, w3, w4⟩ := swar_8 _ _ _ _ _ _ _ _ (pB_le (tn x) 0) (pB_le (tn x) 8) (pB_le (tn x) 16) (pB_le (tn x) 24) (pB_le (tn x) 32) (pB_le (tn x) 40) (pB_le (tn x) 48) (pB_le (tn x) 56) _ _ _ _ eu rfl rfl rfl
  have ed : tn d = tn c + tn c / 256 := by rw [hd, tn_add (by rw [q8]; exact w3), q8]
  have ee : tn e = tn d + tn d / 65536 := by rw [he, tn_add (by rw [q16, ed]; exact w4), q16]
  have ef : tn f = tn e + tn e / 4294967296 := by rw [hf, tn_add (by rw [q32, ee, ed]; exact w2), q32]
  rw [← ed, ← ee, ← ef, ← pcP_64] at w1
  have hp : pc x = pcP 64 (fun k => (tn x).testBit k) := pcP_c (fun k _ => by unfold bt tn; rw [BitVec.testBit_toNat])
  have hl : pc x ≤ 64 := pcP_le 64 _
  apply tni_inj
  rw [tni_of (by omega), tni_and, tni_lo, show tni (127 : Int32) = 127 by decide, mod128, hp, ← w1]
  omega
theorem bc32 (x : Int32) : F_J6_bitCount_0f7a4 x = some (Int32.ofNat (pci x)) := by
  unfold F_J6_bitCount_0f7a4
  simp only [lb]
  congr 1
  obtain ⟨a, ha⟩ : ∃ a, a = x - ((oushr x (1 : Int32)) &&& (1431655765 : Int32)) := ⟨_, rfl⟩
  rw [← ha]
  obtain ⟨b, hb⟩ : ∃ b, b = (a &&& (858993459 : Int32)) + ((oushr a (2 : Int32)) &&& (858993459 : Int32)) := ⟨_, rfl⟩
  rw [← hb]
  obtain ⟨c, hc⟩ : ∃ c, c = (b + (oushr b (4 : Int32))) &&& (252645135 : Int32) := ⟨_, rfl⟩
  rw [← hc]
  obtain ⟨d, hd⟩ : ∃ d, d = c + (oushr c (8 : Int32)) := ⟨_, rfl⟩
  rw [← hd]
  obtain ⟨e, he⟩ : ∃ e, e = d + (oushr d (16 : Int32)) := ⟨_, rfl⟩
  rw [← he]
  have s1' : tni (oushr x (1 : Int32)) = tni x / 2 := tni_shr (j := 1) (by decide)
  have m5 : tni (1431655765 : Int32) = mk8 85 4 := by decide
  have m3 : tni (858993459 : Int32) = mk8 51 4 := by decide
  have m0 : tni (252645135 : Int32) = mk8 15 4 := by decide
  have ea : tni a = s1 4 (tni x) := by
    have : tni ((oushr x (1 : Int32)) &&& (1431655765 : Int32)) ≤ tni x := by
      rw [tni_and, s1']; exact Nat.le_trans Nat.and_le_left (Nat.div_le_self _ 2)
    rw [ha, tni_sub this, tni_and, s1', m5]; rfl
  have v3 : mk8 51 4 = 858993459 := by decide
  have v0 : mk8 15 4 = 252645135 := by decide
  have eb : tni b = s2 4 (tni a) ∧ tni b ≤ 1717986918 := by
    have q1 : tni (a &&& (858993459 : Int32)) ≤ 858993459 := by rw [tni_and, m3, v3]; exact Nat.and_le_right
    have q2 : tni ((oushr a (2 : Int32)) &&& (858993459 : Int32)) ≤ 858993459 := by rw [tni_and, m3, v3]; exact Nat.and_le_right
    have q3 := tni_add (x := a &&& (858993459 : Int32)) (y := (oushr a (2 : Int32)) &&& (858993459 : Int32)) (by omega)
    refine ⟨?_, by rw [hb, q3]; omega⟩
    rw [hb, q3, tni_and, tni_and, m3, show tni (oushr a (2 : Int32)) = tni a / 4 from tni_shr (j := 2) (by decide)]; rfl
  have ec : tni c = s3 4 (tni b) ∧ tni c ≤ 252645135 := by
    have q0 : tni (oushr b (4 : Int32)) = tni b / 16 := tni_shr (j := 4) (by decide)
    have q3 := tni_add (x := b) (y := oushr b (4 : Int32)) (by rw [q0]; omega)
    refine ⟨?_, by rw [hc, tni_and, m0, v0]; exact Nat.and_le_right⟩
    rw [hc, tni_and, q3, q0, m0]; rfl
  have eu : tni c = uu 4 (tni x) := by rw [ec.1, eb.1, ea]; rfl
  rw [uu_4] at eu
  have q8 : tni (oushr c (8 : Int32)) = tni c / 256 := tni_shr (j := 8) (by decide)
  have q16 : tni (oushr d (16 : Int32)) = tni d / 65536 := tni_shr (j := 16) (by decide)
  obtain ⟨w1, w3, w4⟩ := swar_4 _ _ _ _ (pB_le (tni x) 0) (pB_le (tni x) 8) (pB_le (tni x) 16) (pB_le (tni x) 24) _ _ _ eu rfl rfl
  have ed : tni d = tni c + tni c / 256 := by rw [hd, tni_add (by rw [q8]; exact w3), q8]
  have ee : tni e = tni d + tni d / 65536 := by rw [he, tni_add (by rw [q16, ed]; exact w4), q16]
  rw [← ed, ← ee, ← pcP_32] at w1
  have hp : pci x = pcP 32 (fun k => (tni x).testBit k) := pcP_c (fun k _ => by unfold bi tni; rw [BitVec.testBit_toNat])
  have hl : pci x ≤ 32 := pcP_le 32 _
  apply tni_inj
  rw [tni_of (by omega), tni_and, show tni (63 : Int32) = 63 by decide, mod64, hp, ← w1]

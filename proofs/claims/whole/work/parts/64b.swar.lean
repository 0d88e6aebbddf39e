/-! LAYER 2: how many bits -/
theorem dvm (M q r : Nat) (h : r < M) : (M * q + r) / M = q := by rw [Nat.mul_add_div (by omega), Nat.div_eq_of_lt h, Nat.add_zero]
theorem mdm (M q r : Nat) (h : r < M) : (M * q + r) % M = r := by rw [Nat.mul_add_mod, Nat.mod_eq_of_lt h]
theorem sw8x (a b c d e f g h : Nat) : 256 * (256 * (256 * (256 * (256 * (256 * (256 * h + g) + f) + e) + d) + c) + b) + a + (256 * (256 * (256 * (256 * (256 * (256 * h + g) + f) + e) + d) + c) + b) = 65536 * (256 * (256 * (256 * (256 * (256 * h + (g + h)) + (f + g)) + (e + f)) + (d + e)) + (c + d)) + (256 * (b + c) + (a + b)) := by omega
theorem sw8y (a b c d e f g h : Nat) : 65536 * (256 * (256 * (256 * (256 * (256 * h + (g + h)) + (f + g)) + (e + f)) + (d + e)) + (c + d)) + (256 * (b + c) + (a + b)) + (256 * (256 * (256 * (256 * (256 * h + (g + h)) + (f + g)) + (e + f)) + (d + e)) + (c + d)) = 4294967296 * (256 * (256 * (256 * h + (g + h)) + (f + g + h)) + (e + f + g + h)) + (256 * (256 * (256 * (d + e + f + g) + (c + d + e + f)) + (b + c + d + e)) + (a + b + c + d)) := by omega
theorem sw8z (a b c d e f g h : Nat) : 4294967296 * (256 * (256 * (256 * h + (g + h)) + (f + g + h)) + (e + f + g + h)) + (256 * (256 * (256 * (d + e + f + g) + (c + d + e + f)) + (b + c + d + e)) + (a + b + c + d)) + (256 * (256 * (256 * h + (g + h)) + (f + g + h)) + (e + f + g + h)) = 128 * (33554432 * (256 * (256 * (256 * h + (g + h)) + (f + g + h)) + (e + f + g + h)) + 2 * (256 * (256 * (d + e + f + g + h) + (c + d + e + f + g + h)) + (b + c + d + e + f + g + h))) + (a + b + c + d + e + f + g + h) := by omega
theorem sw8b (a b c d e f g h : Nat) (ha : a ≤ 8) (hb : b ≤ 8) (hc : c ≤ 8) (hd : d ≤ 8) (he : e ≤ 8) (hf : f ≤ 8) (hg : g ≤ 8) (hh : h ≤ 8) : 256 * (b + c) + (a + b) < 65536 ∧ 256 * (256 * (256 * (d + e + f + g) + (c + d + e + f)) + (b + c + d + e)) + (a + b + c + d) < 4294967296 ∧ a + b + c + d + e + f + g + h < 128 := by omega
theorem sw8c (a b c d e f g h : Nat) (ha : a ≤ 8) (hb : b ≤ 8) (hc : c ≤ 8) (hd : d ≤ 8) (he : e ≤ 8) (hf : f ≤ 8) (hg : g ≤ 8) (hh : h ≤ 8) : 65536 * (256 * (256 * (256 * (256 * (256 * h + (g + h)) + (f + g)) + (e + f)) + (d + e)) + (c + d)) + (256 * (b + c) + (a + b)) < 18446744073709551616 ∧ 4294967296 * (256 * (256 * (256 * h + (g + h)) + (f + g + h)) + (e + f + g + h)) + (256 * (256 * (256 * (d + e + f + g) + (c + d + e + f)) + (b + c + d + e)) + (a + b + c + d)) < 18446744073709551616 ∧ 128 * (33554432 * (256 * (256 * (256 * h + (g + h)) + (f + g + h)) + (e + f + g + h)) + 2 * (256 * (256 * (d + e + f + g + h) + (c + d + e + f + g + h)) + (b + c + d + e + f + g + h))) + (a + b + c + d + e + f + g + h) < 18446744073709551616 := by omega
theorem swar_8 (a b c d e f g h : Nat) (ha : a ≤ 8) (hb : b ≤ 8) (hc : c ≤ 8) (hd : d ≤ 8) (he : e ≤ 8) (hf : f ≤ 8) (hg : g ≤ 8) (hh : h ≤ 8) (n x y z : Nat) (hn : n = 256 * (256 * (256 * (256 * (256 * (256 * (256 * h + g) + f) + e) + d) + c) + b) + a) (hx : x = n + n / 256) (hy : y = x + x / 65536) (hz : z = y + y / 4294967296) : z % 128 = a + b + c + d + e + f + g + h ∧ z < 18446744073709551616 ∧ x < 18446744073709551616 ∧ y < 18446744073709551616 := by
  obtain ⟨b1, b2, b3⟩ := sw8b a b c d e f g h ha hb hc hd he hf hg hh
  obtain ⟨c1, c2, c3⟩ := sw8c a b c d e f g h ha hb hc hd he hf hg hh
  have h1 : n / 256 = 256 * (256 * (256 * (256 * (256 * (256 * h + g) + f) + e) + d) + c) + b := by rw [hn]; exact dvm 256 _ a (Nat.lt_of_le_of_lt ha (by decide))
  have h2 := hx
  rw [h1, hn, sw8x] at h2
  have h3 := dvm 65536 (256 * (256 * (256 * (256 * (256 * h + (g + h)) + (f + g)) + (e + f)) + (d + e)) + (c + d)) _ b1
  rw [← h2] at h3
  have h4 := hy
  rw [h3, h2, sw8y] at h4
  have h5 := dvm 4294967296 (256 * (256 * (256 * h + (g + h)) + (f + g + h)) + (e + f + g + h)) _ b2
  rw [← h4] at h5
  have h6 := hz
  rw [h5, h4, sw8z] at h6
  refine ⟨?_, by rw [h6]; exact c3, by rw [h2]; exact c1, by rw [h4]; exact c2⟩
  rw [h6]
  exact mdm 128 _ _ b3
theorem sw4x (a b c d : Nat) : 256 * (256 * (256 * d + c) + b) + a + (256 * (256 * d + c) + b) = 65536 * (256 * d + (c + d)) + (256 * (b + c) + (a + b)) := by omega
theorem sw4y (a b c d : Nat) : 65536 * (256 * d + (c + d)) + (256 * (b + c) + (a + b)) + (256 * d + (c + d)) = 64 * (4 * (256 * (256 * d + (c + d)) + (b + c + d))) + (a + b + c + d) := by omega
theorem swar_4 (a b c d : Nat) (ha : a ≤ 8) (hb : b ≤ 8) (hc : c ≤ 8) (hd : d ≤ 8) (n x y : Nat) (hn : n = 256 * (256 * (256 * d + c) + b) + a) (hx : x = n + n / 256) (hy : y = x + x / 65536) : y % 64 = a + b + c + d ∧ x < 4294967296 ∧ y < 4294967296 := by
  have b1 : 256 * (b + c) + (a + b) < 65536 ∧ a + b + c + d < 64 := by clear hn hx hy; omega
  have c1 : 65536 * (256 * d + (c + d)) + (256 * (b + c) + (a + b)) < 4294967296 ∧ 64 * (4 * (256 * (256 * d + (c + d)) + (b + c + d))) + (a + b + c + d) < 4294967296 := by clear hn hx hy; omega
  have h1 : n / 256 = 256 * (256 * d + c) + b := by rw [hn]; exact dvm 256 _ a (Nat.lt_of_le_of_lt ha (by decide))
  have h2 := hx
  rw [h1, hn, sw4x] at h2
  have h3 := dvm 65536 (256 * d + (c + d)) _ b1.1
  rw [← h2] at h3
  have h4 := hy
  rw [h3, h2, sw4y] at h4
  refine ⟨?_, by rw [h2]; exact c1.1, by rw [h4]; exact c1.2⟩
  rw [h4]
  exact mdm 64 _ _ b1.2

/-! LAYER 2: parted: no more turns than members -/
theorem pci_drop {x y : Int32} {i : Nat} (hi : bi x i = true) (hy : bi y i = true) : pci (x &&& (y ^^^ (-1 : Int32))) < pci x := by
  have hlt : i < 32 := by
    by_cases c : i < 32
    · exact c
    · rw [bi_big (by omega)] at hi; cases hi
  have hd := pcP_del (n := 32) (p := bi x) hlt hi
  have hle : pcP 32 (bi (x &&& (y ^^^ (-1 : Int32)))) ≤ pcP 32 (fun j => bi x j && !decide (j = i)) := by
    unfold pcP
    refine List.countP_mono_left (fun j hj hb => ?_)
    have hj32 : j < 32 := List.mem_range.mp hj
    rw [bi_and, bi_not hj32, Bool.and_eq_true] at hb
    have : j ≠ i := fun e => by rw [e, hy] at hb; exact absurd hb.2 (by decide)
    simp [hb.1, this]
  show pcP 32 (bi (x &&& (y ^^^ (-1 : Int32)))) < pcP 32 (bi x)
  omega
theorem cvr_pc {cv : Nat → Int32} {N : Nat} : ∀ (n : Nat) {x : Int32} {t : Nat}, pci x ≤ n → cvr cv N t x → cvr cv N n x
  | 0, x, t, hn, h => by
    show x = nI 0
    apply bi_ext
    intro j hj
    rw [bi_z]
    exact pcP_z (show pcP 32 (bi x) = 0 by have : pcP 32 (bi x) = pci x := rfl; omega) j hj
  | n+1, x, t, hn, h => by
    by_cases c : pci x = 0
    · exact cvr_up (cvr_pc n (by omega) h)
    · obtain ⟨i, _, hi⟩ := pcP_ex (show 0 < pcP 32 (bi x) by have : pcP 32 (bi x) = pci x := rfl; omega)
      obtain ⟨s, h1, h2, h3⟩ := cvr_first hi (cvr_up h)
      have hd := pci_drop hi h2
      exact cvr_swap h1 (cvr_pc n (by omega) h3)

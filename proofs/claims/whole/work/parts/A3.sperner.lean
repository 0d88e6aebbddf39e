/-! LAYER 2: parted: no more than 924 sets of twelve, none within another -/
/-- last unmatched one, from the left; d open zeros -/
def spD (x : Nat) : Nat → Nat → Nat → Nat → Nat
  | 0, _, _, r => r
  | K+1, i, d, r => if x.testBit i then (match d with | 0 => spD x K (i + 1) 0 (i + 1) | d+1 => spD x K (i + 1) d r) else spD x K (i + 1) (d + 1) r
/-- first unmatched zero, from the right -/
def spU (x : Nat) : Nat → Nat → Nat → Nat
  | 0, _, r => r
  | i+1, d, r => if x.testBit i then spU x i (d + 1) r else (match d with | 0 => spU x i 0 (i + 1) | d+1 => spU x i d r)
/-- unmatched ones taken away -/
def spB (x : Nat) : Nat → Nat → Nat → Nat → Nat
  | 0, _, _, r => r
  | K+1, i, d, r => if x.testBit i then (match d with | 0 => spB x K (i + 1) 0 (r - 2 ^ i) | d+1 => spB x K (i + 1) d r) else spB x K (i + 1) (d + 1) r
def spDn (x : Nat) : Nat := match spD x 12 0 0 0 with | 0 => x | i+1 => x - 2 ^ i
def spUp (x : Nat) : Nat := match spU x 12 0 0 with | 0 => x | i+1 => x + 2 ^ i
def spBt (x : Nat) : Nat := spB x 12 0 0 x
def spC (x : Nat) : Bool := (Nat.beq (spBt x) x || (Nat.blt (spDn x) x && (Nat.beq (spUp (spDn x)) x && Nat.beq (spBt (spDn x)) (spBt x)))) && (Nat.beq (Nat.land x (spUp x)) x && Nat.blt (spUp x) 4096)
def spA : Nat → Bool
  | 0 => true
  | n+1 => spC n && spA n
def spN : Nat → Nat
  | 0 => 0
  | n+1 => if Nat.beq (spBt n) n then spN n + 1 else spN n
theorem spA_ok : spA 4096 = true := by decide +kernel
theorem spN_ok : Nat.beq (spN 4096) 924 = true := by decide +kernel
theorem spA_at : ∀ {n x : Nat}, spA n = true → x < n → spC x = true
  | 0, _, _, h => absurd h (Nat.not_lt_zero _)
  | n+1, x, ha, h => by
    have ha' : (spC n && spA n) = true := ha
    rw [Bool.and_eq_true] at ha'
    by_cases c : x = n
    · rw [c]; exact ha'.1
    · exact spA_at ha'.2 (by omega)
theorem spF {x : Nat} (h : x < 4096) : (spBt x = x ∨ (spDn x < x ∧ spUp (spDn x) = x ∧ spBt (spDn x) = spBt x)) ∧ (x &&& spUp x = x ∧ spUp x < 4096) := by
  have hc := spA_at spA_ok h
  unfold spC at hc
  rw [Bool.and_eq_true, Bool.or_eq_true, Bool.and_eq_true, Bool.and_eq_true, Bool.and_eq_true, Nat.beq_eq, Nat.beq_eq, Nat.beq_eq, Nat.beq_eq, Nat.blt_eq, Nat.blt_eq] at hc
  exact hc
def spK : Nat → Nat → Nat
  | 0, x => x
  | k+1, x => spUp (spK k x)
theorem spK_lt {x : Nat} (h : x < 4096) : ∀ k, spK k x < 4096
  | 0 => h
  | k+1 => (spF (spK_lt h k)).2.2
theorem spK_sub {x : Nat} (h : x < 4096) (j : Nat) : ∀ k, ∀ i, (spK j x).testBit i = true → (spK (j + k) x).testBit i = true
  | 0, _, hi => hi
  | k+1, i, hi => by
    have h1 := spK_sub h j k i hi
    have h2 := (spF (spK_lt h (j + k))).2.1
    have h3 : ((spK (j + k) x) &&& spUp (spK (j + k) x)).testBit i = true := by rw [h2]; exact h1
    rw [Nat.testBit_and, Bool.and_eq_true] at h3
    exact h3.2
theorem spBot : ∀ (n x : Nat), x ≤ n → x < 4096 → spBt (spBt x) = spBt x ∧ spBt x < 4096 ∧ ∃ k, spK k (spBt x) = x
  | n, x, hn, hx => by
    rcases (spF hx).1 with h | ⟨h1, h2, h3⟩
    · rw [h]; exact ⟨h, hx, 0, rfl⟩
    · cases n with
      | zero => omega
      | succ n =>
        obtain ⟨g1, g2, k, g3⟩ := spBot n (spDn x) (by omega) (by omega)
        rw [h3] at g1 g2 g3
        exact ⟨g1, g2, k + 1, by show spUp (spK k (spBt x)) = x; rw [g3, h2]⟩
theorem spCmp {x y : Nat} (hx : x < 4096) (hy : y < 4096) (h : spBt x = spBt y) : (∀ i, x.testBit i = true → y.testBit i = true) ∨ (∀ i, y.testBit i = true → x.testBit i = true) := by
  obtain ⟨_, b2, k, hk⟩ := spBot x x (Nat.le_refl _) hx
  obtain ⟨_, _, l, hl⟩ := spBot y y (Nat.le_refl _) hy
  rw [← h] at hl
  rcases Nat.le_total k l with c | c
  · left
    intro i hi
    have := spK_sub b2 k (l - k) i (by rw [hk]; exact hi)
    rw [show k + (l - k) = l by omega, hl] at this; exact this
  · right
    intro i hi
    have := spK_sub b2 l (k - l) i (by rw [hl]; exact hi)
    rw [show l + (k - l) = k by omega, hk] at this; exact this
theorem spN_eq : ∀ n, spN n = ((List.range n).filter (fun x => Nat.beq (spBt x) x)).length
  | 0 => rfl
  | n+1 => by
    show (if Nat.beq (spBt n) n then spN n + 1 else spN n) = _
    rw [List.range_succ, List.filter_append, List.length_append, spN_eq n]
    cases hb : Nat.beq (spBt n) n <;> simp [hb]
theorem pgn : ∀ (l L : List Nat), l.Nodup → (∀ x, x ∈ l → x ∈ L) → l.length ≤ L.length
  | [], _, _, _ => Nat.zero_le _
  | a :: l, L, hn, hs => by
    obtain ⟨h1, h2⟩ := List.nodup_cons.mp hn
    have ha := hs a (List.mem_cons_self ..)
    have := pgn l (L.erase a) h2 (fun x hx => (List.mem_erase_of_ne (fun e => h1 (by rw [← e]; exact hx))).mpr (hs x (List.mem_cons_of_mem _ hx)))
    rw [List.length_erase_of_mem ha] at this
    have h0 : 0 < L.length := List.length_pos_of_mem ha
    rw [List.length_cons]; omega
theorem sperner {l : List Nat} (h : ∀ x, x ∈ l → x < 4096) (hp : l.Pairwise (fun x y => ¬ (∀ i, x.testBit i = true → y.testBit i = true) ∧ ¬ (∀ i, y.testBit i = true → x.testBit i = true))) : l.length ≤ 924 := by
  have h1 : (l.map spBt).Nodup := by
    unfold List.Nodup
    rw [List.pairwise_map]
    refine List.Pairwise.imp_of_mem (fun {a b} ha hb hab e => ?_) hp
    rcases spCmp (h a ha) (h b hb) e with c | c
    · exact hab.1 c
    · exact hab.2 c
  have h2 := pgn (l.map spBt) ((List.range 4096).filter (fun x => Nat.beq (spBt x) x)) h1 (fun x hx => by
    obtain ⟨y, hy, rfl⟩ := List.mem_map.mp hx
    obtain ⟨g1, g2, _⟩ := spBot y y (Nat.le_refl _) (h y hy)
    rw [List.mem_filter, List.mem_range]
    exact ⟨g2, Nat.beq_eq.mpr g1⟩)
  rw [List.length_map, ← spN_eq 4096, Nat.beq_eq.mp spN_ok] at h2
  exact h2

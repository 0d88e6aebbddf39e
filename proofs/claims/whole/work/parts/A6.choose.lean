/-! LAYER 2: parted: the turns chosen -/
theorem lsT_ex (cv : Nat → Int32) (N : Nat) (x : Int32) : ∃ v, lsT cv N 99 x v := by
  by_cases h : ∃ u, cvr cv N u x
  · obtain ⟨u, hu⟩ := h
    have hp : pci x ≤ 32 := pcP_le 32 _
    have h32 := cvr_pc 32 hp hu
    have lst : ∀ n, (∃ v, v < n ∧ cvr cv N v x ∧ ∀ u, u < v → ¬ cvr cv N u x) ∨ ∀ u, u < n → ¬ cvr cv N u x := by
      intro n
      induction n with
      | zero => exact Or.inr (fun u h => by omega)
      | succ n ih =>
        rcases ih with ⟨v, a, b, c⟩ | h
        · exact Or.inl ⟨v, by omega, b, c⟩
        · by_cases c : cvr cv N n x
          · exact Or.inl ⟨n, by omega, c, h⟩
          · refine Or.inr (fun u hu => ?_)
            by_cases e : u = n
            · rw [e]; exact c
            · exact h u (by omega)
    rcases lst 33 with ⟨v, a, b, c⟩ | h
    · exact ⟨v, Or.inl ⟨b, by omega, c⟩⟩
    · exact absurd h32 (h 32 (by omega))
  · exact ⟨99, Or.inr ⟨rfl, fun u hu => h ⟨u, hu⟩⟩⟩
noncomputable def lsV (cv : Nat → Int32) (N : Nat) (x : Int32) : Nat := Classical.choose (lsT_ex cv N x)
theorem lsV_t (cv : Nat → Int32) (N : Nat) (x : Int32) : lsT cv N 99 x (lsV cv N x) := Classical.choose_spec (lsT_ex cv N x)
theorem lsV_e {cv : Nat → Int32} {N : Nat} {x : Int32} {v : Nat} (h : lsT cv N 99 x v) : v = lsV cv N x := lsT_u h (lsV_t cv N x)
theorem lsV_0 {cv : Nat → Int32} {N : Nat} : lsV cv N (nI 0) = 0 := (lsV_e (lsT_0 (by omega))).symm
theorem lsV_z {cv : Nat → Int32} {N : Nat} {x : Int32} (h : lsV cv N x = 0) : x = nI 0 := by
  have := lsT_cv (lsV_t cv N x) (by omega)
  rw [h] at this; exact this
theorem lsV_up {cv : Nat → Int32} {N s : Nat} {x : Int32} (hs : s < N) : lsV cv N x ≤ lsV cv N (x &&& (cv s ^^^ (-1 : Int32))) + 1 := by
  by_cases c : lsV cv N (x &&& (cv s ^^^ (-1 : Int32))) < 99
  · exact lsT_ge (lsV_t cv N x) (cvr_swap hs (lsT_cv (lsV_t cv N _) c))
  · have := lsT_le (lsV_t cv N x); omega
theorem lsV_ex {cv : Nat → Int32} {N v : Nat} {x : Int32} (h : lsV cv N x = v + 1) (h9 : v + 1 < 99) : ∃ s, s < N ∧ lsV cv N (x &&& (cv s ^^^ (-1 : Int32))) = v := by
  have h1 := lsT_cv (lsV_t cv N x) (by omega)
  rw [h] at h1
  rcases h1 with h1 | ⟨s, h1, h2⟩
  · have := lsT_ge (lsV_t cv N x) h1; omega
  · have a := lsT_ge (lsV_t cv N _) h2
    have b := lsV_up (cv := cv) (x := x) h1
    exact ⟨s, h1, by omega⟩
theorem lsV_pc {cv : Nat → Int32} {N : Nat} {x : Int32} (h : lsV cv N x < 99) : lsV cv N x ≤ pci x := lsT_ge (lsV_t cv N x) (cvr_pc _ (Nat.le_refl _) (lsT_cv (lsV_t cv N x) h))
theorem pci_low {m : Nat} (hm : m ≤ 12) {x : Int32} (h : lowQ m x) : pci x ≤ m := by
  have e : pcP 32 (bi x) = pcP m (bi x) := pc_gap (by omega) (fun i hi _ => h i hi)
  show pcP 32 (bi x) ≤ m
  rw [e]; exact pcP_le m _
/-- settings passed in their order, each taken that makes the rest need one turn less -/
def chS (f : Int32 → Nat) (cv : Nat → Int32) (x0 : Int32) : Nat → Int32 × List Nat
  | 0 => (x0, [])
  | s+1 => if f ((chS f cv x0 s).1 &&& (cv s ^^^ (-1 : Int32))) + 1 = f (chS f cv x0 s).1 then ((chS f cv x0 s).1 &&& (cv s ^^^ (-1 : Int32)), (chS f cv x0 s).2 ++ [s]) else chS f cv x0 s
theorem chS_s (f : Int32 → Nat) (cv : Nat → Int32) (x0 : Int32) (s : Nat) : chS f cv x0 (s + 1) = if f ((chS f cv x0 s).1 &&& (cv s ^^^ (-1 : Int32))) + 1 = f (chS f cv x0 s).1 then ((chS f cv x0 s).1 &&& (cv s ^^^ (-1 : Int32)), (chS f cv x0 s).2 ++ [s]) else chS f cv x0 s := rfl
theorem chS_inv (f : Int32 → Nat) (cv : Nat → Int32) (x0 : Int32) : ∀ s, f (chS f cv x0 s).1 + (chS f cv x0 s).2.length = f x0
  | 0 => by show f x0 + 0 = f x0; omega
  | s+1 => by
    have ih := chS_inv f cv x0 s
    rw [chS_s]
    by_cases c : f ((chS f cv x0 s).1 &&& (cv s ^^^ (-1 : Int32))) + 1 = f (chS f cv x0 s).1
    · rw [if_pos c]; simp only [List.length_append, List.length_singleton]; omega
    · rw [if_neg c]; exact ih
theorem chS_stay {f : Int32 → Nat} {cv : Nat → Int32} {x0 : Int32} {s : Nat} (h : f (chS f cv x0 s).1 = 0) : ∀ d, chS f cv x0 (s + d) = chS f cv x0 s
  | 0 => rfl
  | d+1 => by
    have ih := chS_stay h d
    rw [show s + (d + 1) = (s + d) + 1 by omega, chS_s, ih, if_neg (by omega)]
theorem chS_lt (f : Int32 → Nat) (cv : Nat → Int32) (x0 : Int32) : ∀ s e, e ∈ (chS f cv x0 s).2 → e < s
  | 0, e, h => by cases h
  | s+1, e, h => by
    rw [chS_s] at h
    by_cases c : f ((chS f cv x0 s).1 &&& (cv s ^^^ (-1 : Int32))) + 1 = f (chS f cv x0 s).1
    · rw [if_pos c] at h
      rcases List.mem_append.mp h with h | h
      · have := chS_lt f cv x0 s e h; omega
      · rw [List.mem_singleton] at h; omega
    · rw [if_neg c] at h
      have := chS_lt f cv x0 s e h; omega
theorem chS_low {f : Int32 → Nat} {cv : Nat → Int32} {m k : Nat} (hm : m ≤ 12) (hk : k < 2 ^ m) : ∀ s, ∃ y, (chS f cv (nI k) s).1 = nI y ∧ y < 2 ^ m
  | 0 => ⟨k, rfl, hk⟩
  | s+1 => by
    obtain ⟨y, h1, h2⟩ := chS_low (f := f) (cv := cv) hm hk s
    rw [chS_s]
    by_cases c : f ((chS f cv (nI k) s).1 &&& (cv s ^^^ (-1 : Int32))) + 1 = f (chS f cv (nI k) s).1
    · rw [if_pos c, h1]; exact n_andL hm h2 _
    · rw [if_neg c]; exact ⟨y, h1, h2⟩
theorem and_self2 (x a : Int32) : (x &&& a) &&& a = x &&& a := by
  apply bi_ext; intro j _; rw [bi_and, bi_and]; cases bi x j <;> cases bi a j <;> rfl
theorem and_sw (x a b : Int32) : (x &&& a) &&& b = (x &&& b) &&& a := by
  apply bi_ext; intro j _; rw [bi_and, bi_and, bi_and, bi_and]; cases bi x j <;> cases bi a j <;> cases bi b j <;> rfl
theorem chS_no {cv : Nat → Int32} {N : Nat} {x0 : Int32} : ∀ s, s ≤ N → ∀ s', s' < s → ¬ lsV cv N ((chS (lsV cv N) cv x0 s).1 &&& (cv s' ^^^ (-1 : Int32))) + 1 = lsV cv N (chS (lsV cv N) cv x0 s).1
  | 0, _, s', h => absurd h (Nat.not_lt_zero _)
  | s+1, hs, s', h => by
    have ih := chS_no (cv := cv) (N := N) (x0 := x0) s (by omega)
    rw [chS_s]
    by_cases c : lsV cv N ((chS (lsV cv N) cv x0 s).1 &&& (cv s ^^^ (-1 : Int32))) + 1 = lsV cv N (chS (lsV cv N) cv x0 s).1
    · rw [if_pos c]
      simp only
      by_cases e : s' = s
      · rw [e, and_self2]; omega
      · have h1 := ih s' (by omega)
        rw [and_sw]
        have h2 := lsV_up (cv := cv) (x := (chS (lsV cv N) cv x0 s).1 &&& (cv s' ^^^ (-1 : Int32))) (show s < N by omega)
        have h3 := lsV_up (cv := cv) (x := (chS (lsV cv N) cv x0 s).1) (show s' < N by omega)
        omega
    · rw [if_neg c]
      by_cases e : s' = s
      · rw [e]; exact c
      · exact ih s' (by omega)
theorem chS_end {cv : Nat → Int32} {N : Nat} {x0 : Int32} (h : lsV cv N x0 < 99) : (chS (lsV cv N) cv x0 N).2.length = lsV cv N x0 := by
  have inv := chS_inv (lsV cv N) cv x0 N
  cases hv : lsV cv N (chS (lsV cv N) cv x0 N).1 with
  | zero => omega
  | succ v =>
    obtain ⟨s, s1, s2⟩ := lsV_ex hv (by omega)
    exact absurd (by omega) (chS_no (cv := cv) (x0 := x0) N (Nat.le_refl _) s s1)
/-- the turns that stand in the class -/
def tnX (L : List Nat) (I : HI) : Prop := I x_parting f_Parting_turns = nI L.length ∧ ∀ k, k < L.length → I x_parting_chosen k = nI (L.getD k 0)
abbrev chW : Pl := [(x_parting_fewest, none), (x_parting_chosen, none)]
theorem X4_choose {cv : Nat → Int32} {N m k0 : Nat} {W : List Int32} (hN : N ≤ 2187) (hm : m ≤ 12) (hk : k0 < 2 ^ m) (hWs : ∀ w, w ∈ W → ∃ s, s < N ∧ cv s = w) (hWc : ∀ s, s < N → cv s ≠ nI 0 → ∃ w, w ∈ W ∧ sbI (cv s) w) (h924 : W.length ≤ 924) (hT : lsV cv N (nI k0) < 99) (I : HI) (J : HJ) (hsz : I x_table f_Table_size = nI N) (hcv : ∀ s, s < N → I x_parting_cover s = cv s) (htn : I x_parting f_Parting_turns = nI (lsV cv N (nI k0))) (hw : wdQ W I) (hf : fwsQ cv N m I) : Ok (F_X4_choose (nI k0) I J) (fun q => q.2.2 = J ∧ tnX (chS (lsV cv N) cv (nI k0) N).2 q.2.1) := by
  have hT12 : lsV cv N (nI k0) ≤ 12 := by
    have := lsV_pc hT
    have := pci_low hm (n_lowQ hm hk)
    omega
  have hend := chS_end hT
  unfold F_X4_choose
  have l1 : ∀ K s, s ≤ N → N - s < K → ∀ I', Sm chW I I' → fwsQ cv N m I' → (∀ k, k < (chS (lsV cv N) cv (nI k0) s).2.length → I' x_parting_chosen k = nI ((chS (lsV cv N) cv (nI k0) s).2.getD k 0)) → Ok (F_X4_choose_L7 K (chS (lsV cv N) cv (nI k0) s).1 (nI (chS (lsV cv N) cv (nI k0) s).2.length) (nI s) I' J) (fun q => q.2.2 = J ∧ tnX (chS (lsV cv N) cv (nI k0) N).2 q.2.1) := by
    refine up ?_ ?_
    · intro K I' s1 _ s3
      rw [F_X4_choose_L7]
      exact Ok.t (by rw [s1 _ _ rfl, hsz, n_le] <;> omega) (Ok.mk ⟨rfl, by dsimp only; rw [s1 _ _ rfl, htn, hend], s3⟩)
    · intro K s hs ih I' s1 s2 s3
      have inv := chS_inv (lsV cv N) cv (nI k0) s
      obtain ⟨y, y1, y2⟩ := chS_low (f := lsV cv N) (cv := cv) hm hk s
      rw [F_X4_choose_L7]
      refine Ok.f (by rw [s1 _ _ rfl, hsz, n_le] <;> omega) ?_
      rw [s1 x_parting _ rfl, htn]
      by_cases c : lsV cv N (nI k0) ≤ (chS (lsV cv N) cv (nI k0) s).2.length
      · have hst := chS_stay (f := lsV cv N) (cv := cv) (x0 := nI k0) (s := s) (by omega) (N - s)
        rw [show s + (N - s) = N by omega] at hst
        refine Ok.t (by rw [n_le] <;> omega) (Ok.mk ⟨rfl, ?_⟩)
        rw [hst]
        exact ⟨by dsimp only; rw [s1 _ _ rfl, htn, ← hend, hst], s3⟩
      · refine Ok.f (by rw [n_le] <;> omega) (Ok.bxe (by omega) (by omega) (Ok.lbv (Ok.lbv ?_)))
        have hc : I' x_parting_cover s = cv s := by rw [s1 _ _ rfl]; exact hcv s hs
        rw [n_cl (by omega), hc, nI_1, nI_1]
        rw [chS_s] at ih
        refine Ok.ite (fun d => ?_) (fun d => ?_)
        · rw [if_neg (by rw [d]; omega)] at ih
          exact ih I' s1 s2 s3
        · obtain ⟨z, z1, z2⟩ := n_andL hm y2 (cv s ^^^ (-1 : Int32))
          have hzp := pci_low hm (n_lowQ hm z2)
          have hzz : (chS (lsV cv N) cv (nI k0) s).1 &&& (cv s ^^^ (-1 : Int32)) = nI z := by rw [y1, z1]
          rw [hzz] at ih ⊢
          have hw' : wdQ W I' := ⟨by rw [s1 _ _ rfl]; exact hw.1, fun j hj => by rw [s1 _ _ rfl]; exact hw.2 j hj⟩
          refine Ok.call (X4_fewestFor hm hWs hWc h924 20 z 0 z2 (by omega) (by omega) I' J hw' s2) (fun r I2 J2 _ hP => ?_)
          obtain ⟨v, p1, p2, p3, p4, p5⟩ := hP
          simp only at p1 p3 p4 p5
          subst p1 p3
          have hv := lsV_e p2
          have hv9 := lsT_le p2
          rw [p4 x_parting _ rfl, s1 x_parting _ rfl, htn, show (1 : Int32) = nI 1 from rfl, n_sub (by omega), n_sub (by omega)]
          by_cases e : lsV cv N (nI z) + 1 = lsV cv N (chS (lsV cv N) cv (nI k0) s).1
          · rw [if_pos e] at ih
            refine Ok.t (by rw [n_eq] <;> omega) (Ok.bxe (by omega) (by omega) (Ok.lbv ?_))
            simp only [List.length_append, List.length_singleton] at ih
            rw [n_cl (by omega)]
            refine ih _ (Sm.mi rfl (Sm.tr (by decide) s1 p4)) (fun y' hy' => ?_) (fun k hk' => ?_)
            · rw [ui_c (by decide)]; exact p5 y' hy'
            · rw [ui_s, getD_ap1]
              by_cases g : k = (chS (lsV cv N) cv (nI k0) s).2.length
              · rw [if_pos g, if_pos g]
              · rw [if_neg g, if_neg g, p4 _ _ rfl]; exact s3 k (by omega)
          · rw [if_neg e] at ih
            refine Ok.f (by rw [n_eq] <;> omega) ?_
            exact ih _ (Sm.tr (by decide) s1 p4) p5 (fun k hk' => by rw [p4 _ _ rfl]; exact s3 k hk')
  exact l1 bgf 0 (Nat.zero_le _) (by unfold bgf; omega) I Sm.rf hf (fun k h => by cases h)
theorem X4_part {cv : Nat → Int32} {N m : Nat} (hN : N ≤ 2187) (hm : m ≤ 12) (hlow : ∀ s, lowQ 12 (cv s)) (I : HI) (J : HJ) (hsz : I x_table f_Table_size = nI N) (hcv : ∀ s, s < N → I x_parting_cover s = cv s) (hlm : I x_parting f_Parting_lamps = nI m) : Ok (F_X4_part I J) (fun q => q.2.2 = J ∧ ((lsV cv N (nI (2 ^ m - 1)) < 99 ∧ q.1 = nI (lsV cv N (nI (2 ^ m - 1))) ∧ tnX (chS (lsV cv N) cv (nI (2 ^ m - 1)) N).2 q.2.1) ∨ (¬ lsV cv N (nI (2 ^ m - 1)) < 99 ∧ q.1 = -2))) := by
  have h12 : (2 : Nat) ^ m ≤ 2 ^ 12 := Nat.pow_le_pow_right (by omega) hm
  have h20 : 0 < (2 : Nat) ^ m := Nat.pow_pos (by omega)
  unfold F_X4_part
  refine Ok.call (X4_findWidest hN hlow I J hsz hcv) (fun r I4 J4 _ hP => ?_)
  obtain ⟨e1, e2, W, w1, w2, w3, w4⟩ := hP
  simp only at e1 e2 w1
  subst e1
  have h924 := ant_le w2 (fun w hw => by obtain ⟨s, _, e⟩ := w3 w hw; rw [← e]; exact hlow s)
  refine Ok.lbv ?_
  rw [e2 x_parting _ rfl, hlm, show (1 : Int32) = nI 1 from rfl, shl_m hm, n_sub (by omega), nI_add, show 2 ^ m - 1 + 1 = 2 ^ m by omega, show (0 : Int32) = nI 0 from rfl]
  refine Ok.call (fl_x_parting_fewest (2 ^ m) (by omega) (-1) I4 J4) (fun r I7 J7 _ hP => ?_)
  obtain ⟨f1, f2, f3⟩ := hP
  simp only at f1 f2 f3
  subst f1
  have hw7 : wdQ W I7 := ⟨by rw [f3 _ _ rfl]; exact w1.1, fun j hj => by rw [f3 _ _ rfl]; exact w1.2 j hj⟩
  have hpf := pci_low hm (n_lowQ (k := 2 ^ m - 1) hm (by omega))
  refine Ok.call (X4_fewestFor hm w3 w4 h924 20 (2 ^ m - 1) 0 (by omega) (by omega) (by omega) I7 J7 hw7 (fun y hy => Or.inl (f2 y hy))) (fun r I10 J10 _ hP => ?_)
  obtain ⟨v, p1, p2, p3, p4, p5⟩ := hP
  simp only at p1 p3 p4 p5
  subst p1 p3
  have hv := lsV_e p2
  have hv9 := lsT_le p2
  refine Ok.lbv ?_
  rw [ui_r]
  by_cases c : v < 99
  · refine Ok.t (show nI v < (99 : Int32) from (by rw [n_lt (by omega) (by omega)]; exact c : nI v < nI 99)) ?_
    have sU : ∀ c j, ¬ c = x_parting → ui I10 x_parting f_Parting_turns (nI v) c j = I10 c j := fun c j h => by rw [ui_c h]
    refine Ok.call (X4_choose hN hm (k0 := 2 ^ m - 1) (by omega) w3 w4 h924 (by omega) (ui I10 x_parting f_Parting_turns (nI v)) J10 ?_ (fun s hs => ?_) (by rw [ui_r, hv]) ⟨?_, fun j hj => ?_⟩ (fun y hy => ?_)) (fun r I13 J13 _ hP => ?_)
    · rw [ui_c (by decide), p4 _ _ rfl, f3 _ _ rfl, e2 _ _ rfl]; exact hsz
    · rw [ui_c (by decide), p4 _ _ rfl, f3 _ _ rfl, e2 _ _ rfl]; exact hcv s hs
    · rw [ui_j (by decide), p4 _ _ rfl]; exact hw7.1
    · rw [ui_c (by decide), p4 _ _ rfl]; exact hw7.2 j hj
    · rw [ui_c (by decide)]; exact p5 y hy
    · obtain ⟨g1, g2⟩ := hP
      simp only at g1 g2
      refine Ok.mk ⟨g1, Or.inl ⟨by omega, ?_, g2⟩⟩
      dsimp only
      rw [g2.1, chS_end (by omega)]
  · refine Ok.f (show ¬ nI v < (99 : Int32) from (by rw [n_lt (by omega) (by omega)]; exact c : ¬ nI v < nI 99)) (Ok.lbv (Ok.mk ⟨rfl, Or.inr ⟨by omega, rfl⟩⟩))

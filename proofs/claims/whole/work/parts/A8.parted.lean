/-! LAYER 2: parted, both whole -/
noncomputable def prT (B : Bd) (p : Int64) : Nat := lsV (cvI B p) (3 ^ bW B) (nI (2 ^ (lsP p 60).length - 1))
noncomputable def prL (B : Bd) (p : Int64) : List Nat := (chS (lsV (cvI B p) (3 ^ bW B)) (cvI B p) (nI (2 ^ (lsP p 60).length - 1)) (3 ^ bW B)).2
theorem cvI_low {B : Bd} {p : Int64} (hC : (lsP p 60).length ≤ 12) (s : Nat) : lowQ (lsP p 60).length (cvI B p s) := by
  intro i hi
  unfold cvI
  split
  · rw [mskI_b (by omega), decide_eq_false (by omega)]; rfl
  · exact bi_z i
theorem lsP_12 {p : Int64} (hp : pc p ≤ 12) : (lsP p 60).length ≤ 12 := by
  rw [lsP_len]
  have : pcP 60 (bt p) ≤ pcP 64 (bt p) := pc_mono (by omega)
  have : pcP 64 (bt p) = pc p := rfl
  omega
theorem prT_12 {B : Bd} {p : Int64} (hC : (lsP p 60).length ≤ 12) (h : prT B p < 99) : prT B p ≤ (lsP p 60).length := by
  have h1 : prT B p ≤ pci (nI (2 ^ (lsP p 60).length - 1)) := lsV_pc h
  have h0 : 0 < 2 ^ (lsP p 60).length := Nat.pow_pos (by omega)
  have h2 := pci_low hC (n_lowQ (k := 2 ^ (lsP p 60).length - 1) hC (by omega))
  omega
theorem prL_len {B : Bd} {p : Int64} (h : prT B p < 99) : (prL B p).length = prT B p := chS_end h
theorem prL_lt {B : Bd} {p : Int64} : ∀ e, e ∈ prL B p → e < 3 ^ bW B := fun e he => chS_lt _ _ _ _ e he
theorem nat_getD_m {L : List Nat} {k : Nat} (h : k < L.length) : L.getD k 0 ∈ L := by
  rw [List.getD_eq_getElem?_getD, List.getElem?_eq_getElem h]; exact List.getElem_mem h
theorem X4_partB {B : Bd} {p : Int64} (hW : bW B ≤ 7) (hC : (lsP p 60).length ≤ 12) (I : HI) (J : HJ) (hsz : I x_table f_Table_size = nI (3 ^ bW B)) (hm : mbX (lsP p 60) I) (hc : cvX B p (3 ^ bW B) I) : Ok (F_X4_part I J) (fun q => q.2.2 = J ∧ ((prT B p < 99 ∧ q.1 = nI (prT B p) ∧ tnX (prL B p) q.2.1) ∨ (¬ prT B p < 99 ∧ q.1 = -2))) :=
  X4_part (p3_le hW) hC (fun s i hi => cvI_low hC s i (by omega)) I J hsz hc hm.1
theorem X12_findParted {B : Bd} (hB : OkB B) (hW : bW B ≤ 7) {p : Int64} (hok : okLp (bL B) p) (hp12 : pc p ≤ 12) (I : HI) (J : HJ) (hM : MB B I) (hMo : CMod I) : Ok (F_X12_findParted p I J) (fun q => MB B q.2.1 ∧ CMod q.2.1 ∧ mbM (lsP p 60) q.2.1 ∧ faQ B q.2.1 q.2.2 ∧ ((prT B p < 99 ∧ q.1 = 1 ∧ tnM (prL B p) q.2.1) ∨ (¬ prT B p < 99 ∧ q.1 = 0))) := by
  have hN := p3_le hW
  have hC := lsP_12 hp12
  have h12 : (2 : Nat) ^ (lsP p 60).length ≤ 2 ^ 12 := Nat.pow_le_pow_right (by omega) hC
  have h20 : 0 < (2 : Nat) ^ (lsP p 60).length := Nat.pow_pos (by omega)
  have h3 : 0 < 3 ^ bW B := Nat.pow_pos (by omega)
  unfold F_X12_findParted
  refine Ok.call (X12_turns hB hW hok hp12 I J hM hMo) (fun r I15 J16 _ hP => ?_)
  obtain ⟨q1, q2, q3, q4, q5⟩ := hP
  simp only at q1 q2 q3 q4 q5
  refine Ok.lbv (Ok.cpe (X12_settings _ hW q4.1) ?_)
  rw [q1.1, show (1 : Int32) = nI 1 from rfl, shl_m hC, n_sub (by omega)]
  generalize hm : (lsP p 60).length = m at hC h12 h20
  have hlow : ∀ s, lowQ m (cvI B p s) := fun s => by rw [← hm]; exact cvI_low (by omega) s
  have hcl : ∀ s, s < 3 ^ bW B → ∃ y, y ≤ 2 ^ m - 1 ∧ cvI B p s = nI y := fun s _ => ⟨_, by have := (n_of (hlow s)).1; omega, (n_of (hlow s)).2⟩
  have done : ∀ I', Sm pmW I15 I' → MB B I' ∧ CMod I' ∧ mbM (lsP p 60) I' ∧ faQ B I' J16 := fun I' s => ⟨q4.keep (Ag.of s (by decide)), q5.keep (Ag.of s (by decide)), ⟨by rw [s _ _ rfl]; exact q1.1, fun k hk => by rw [s _ _ rfl]; exact q1.2 k hk⟩, q3.ki (Ag.of s (by decide))⟩
  refine pm_23 (by omega) I15 (fun I20 s20 g20 => ?_) bgf 0 (Nat.zero_le _) (by unfold bgf; omega) I15 Sm.rf (fun y h => absurd h (Nat.not_lt_zero _))
  refine Ok.lbv ?_
  rw [show nI (3 ^ bW B) - nI 1 = nI (3 ^ bW B) + (-1) from Int32.sub_eq_add_neg ..]
  refine pm_49 (cv := cvI B p) (N := 3 ^ bW B) hN (by omega) hcl I15 q2 (fun I23 s23 g23 => ?_) bgf (3 ^ bW B) (by unfold bgf; omega) (Nat.le_refl _) I20 s20 (fun y hy => ⟨fun _ s' a b => by omega, fun _ => g20 y hy⟩)
  refine Ok.bxe (a := 0) (by omega) (by omega) (Ok.lbv ?_)
  have s24 : Sm pmW I15 (ui I23 m_fewest 0 0) := Sm.mi rfl s23
  refine pm_84 (cv := cvI B p) (N := 3 ^ bW B) (m := m) hN (by omega) hC (ui I23 m_fewest 0 0) ?_ (fun I32 s32 f32 k32 => ?_) bgf 0 (Nat.zero_le _) (by unfold bgf; omega) _ Sm.rf (fun y hy => ?_) rfl (fun i' h => absurd h (Nat.not_lt_zero _))
  · rw [s24 _ _ rfl, q1.1, hm]
  rotate_left
  · rw [ui_c (by decide)]; exact g23 y hy
  rw [show 2 ^ m - 1 + 1 = 2 ^ m by omega] at k32
  refine pm_182 hN hC hlow I15 (fun I37 s37 f37 => ?_) bgf 1 (by omega) (by unfold bgf; omega) (by omega) I32 (Sm.tr (by decide) s24 s32) k32 (fun y hy => ⟨0, ?_, ?_⟩)
  rotate_left
  · rw [show y = 0 by omega, f32, ui_r]; rfl
  · rw [show y = 0 by omega]; exact lsT_0 (by omega)
  refine Ok.bxe (by omega) (by omega) ?_
  obtain ⟨v, v1, v2⟩ := f37 (2 ^ m - 1) (by omega)
  have hT : prT B p = lsV (cvI B p) (3 ^ bW B) (nI (2 ^ m - 1)) := by unfold prT; rw [hm]
  have hL : prL B p = (chS (lsV (cvI B p) (3 ^ bW B)) (cvI B p) (nI (2 ^ m - 1)) (3 ^ bW B)).2 := by unfold prL; rw [hm]
  rw [n_cl (by omega), v1]
  rcases lsT_big v2 with ⟨e1, e2⟩ | ⟨e1, e2⟩
  · refine Ok.t (show nI v < (1000000 : Int32) from (by rw [n_lt (by omega) (by omega)]; omega : nI v < nI 1000000)) (Ok.lbv ?_)
    have s38 : Sm pmW I15 (ui I37 m_self f_Model_turns 0) := Sm.mi rfl s37
    refine (pm_300 (cv := cvI B p) (N := 3 ^ bW B) (J := J16) hN hC (k0 := 2 ^ m - 1) (by omega) (by omega) (ui I37 m_self f_Model_turns 0) (fun s hs => ?_) (fun y hy => ?_) bgf 0 (Nat.zero_le _) (by unfold bgf; omega) _ Sm.rf ⟨by rw [ui_r]; rfl, fun k h => by cases h⟩).mono (fun q hq => ?_)
    · rw [s38 _ _ rfl]; exact q2 s hs
    · rw [ui_c (by decide)]; exact f37 y hy
    · obtain ⟨a1, a2, a3, a4⟩ := hq
      obtain ⟨d1, d2, d3, d4⟩ := done q.2.1 (Sm.tr (by decide) s38 a3)
      exact ⟨d1, d2, d3, by rw [a2]; exact d4, Or.inl ⟨by omega, a1, by rw [hL]; exact a4⟩⟩
  · refine Ok.f (show ¬ nI v < (1000000 : Int32) from (by rw [n_lt (by omega) (by omega)]; omega : ¬ nI v < nI 1000000)) ?_
    obtain ⟨d1, d2, d3, d4⟩ := done I37 s37
    exact Ok.mk ⟨d1, d2, d3, d4, Or.inr ⟨by omega, rfl⟩⟩
abbrev tI (v : Nat) : Int64 := Int32.toInt64 (nI v)
theorem nat_getD_at {P R : List Nat} {w : Nat} : (P ++ w :: R).getD P.length 0 = w := by
  rw [List.getD_eq_getElem?_getD]; simp
theorem tellX40 {L : List Nat} (hL : L.length ≤ 12) (I : HI) (J : HJ) (h : ∀ k, k < L.length → I x_parting_chosen k = nI (L.getD k 0)) : Ok (F_X11_tellTurns_42 (nI L.length) I J) (fun q => tX (L.map tI) q.2.1 q.2.2 ∧ Sm [(x_told, some f_Told_size)] I q.2.1 ∧ Sm [(x_told_numbers, none)] J q.2.2) := by
  unfold F_X11_tellTurns_42
  have lp : ∀ (R P : List Nat) (K : Nat), L = P ++ R → R.length < K → ∀ I' J', Sm [(x_told, some f_Told_size)] I I' → Sm [(x_told_numbers, none)] J J' → tX (P.map tI) I' J' → Ok (F_X11_tellTurns_42_L9 (nI L.length) K (nI P.length) I' J') (fun q => tX (L.map tI) q.2.1 q.2.2 ∧ Sm [(x_told, some f_Told_size)] I q.2.1 ∧ Sm [(x_told_numbers, none)] J q.2.2) := by
    intro R
    induction R with
    | nil =>
      intro P K hP hK I' J' s1 s2 s3
      obtain ⟨K, rfl⟩ : ∃ K', K = K' + 1 := ⟨K - 1, by simp at hK; omega⟩
      rw [List.append_nil] at hP
      rw [← hP] at s3 ⊢
      rw [F_X11_tellTurns_42_L9]
      exact Ok.t (by rw [n_le] <;> omega) (Ok.mk ⟨s3, s1, s2⟩)
    | cons w R ih =>
      intro P K hP hK I' J' s1 s2 s3
      obtain ⟨K, rfl⟩ : ∃ K', K = K' + 1 := ⟨K - 1, by simp at hK; omega⟩
      have hlen : P.length < L.length := by rw [hP]; simp
      rw [F_X11_tellTurns_42_L9]
      refine Ok.f (by rw [n_le] <;> omega) (Ok.f (show ¬ (12 : Int32) ≤ nI P.length from (by rw [n_le (by omega) (by omega)]; omega : ¬ nI 12 ≤ nI P.length)) (Ok.bxe (by omega) (by omega) ?_))
      have hw : L.getD P.length 0 = w := by rw [hP, nat_getD_at]
      rw [n_cl (by omega), s1 x_parting_chosen _ rfl, h _ hlen, hw, nI_1]
      refine add1 s3 (by simp; omega) (fun I2 J2 d1 d2 d3 => ?_)
      have := ih (P ++ [w]) K (by rw [hP]; simp) (by simp at hK; omega) I2 J2 (Sm.tr (by decide) s1 d2) (Sm.tr (by decide) s2 d3) (by rw [List.map_append]; exact d1)
      rw [List.length_append, List.length_singleton] at this
      exact this
  exact clr1 (fun I2 c1 c2 => lp L [] bgf rfl (by unfold bgf; omega) I2 J c2 Sm.rf c1)
theorem tellX41 {L : List Nat} (hL : L.length ≤ 12) (I : HI) (J : HJ) (h : ∀ k, k < L.length → I x_parting_order k = nI (L.getD k 0)) : Ok (F_X11_tellTurns_43 (nI L.length) I J) (fun q => tX (L.map tI) q.2.1 q.2.2 ∧ Sm [(x_told, some f_Told_size)] I q.2.1 ∧ Sm [(x_told_numbers, none)] J q.2.2) := by
  unfold F_X11_tellTurns_43
  have lp : ∀ (R P : List Nat) (K : Nat), L = P ++ R → R.length < K → ∀ I' J', Sm [(x_told, some f_Told_size)] I I' → Sm [(x_told_numbers, none)] J J' → tX (P.map tI) I' J' → Ok (F_X11_tellTurns_43_L9 (nI L.length) K (nI P.length) I' J') (fun q => tX (L.map tI) q.2.1 q.2.2 ∧ Sm [(x_told, some f_Told_size)] I q.2.1 ∧ Sm [(x_told_numbers, none)] J q.2.2) := by
    intro R
    induction R with
    | nil =>
      intro P K hP hK I' J' s1 s2 s3
      obtain ⟨K, rfl⟩ : ∃ K', K = K' + 1 := ⟨K - 1, by simp at hK; omega⟩
      rw [List.append_nil] at hP
      rw [← hP] at s3 ⊢
      rw [F_X11_tellTurns_43_L9]
      exact Ok.t (by rw [n_le] <;> omega) (Ok.mk ⟨s3, s1, s2⟩)
    | cons w R ih =>
      intro P K hP hK I' J' s1 s2 s3
      obtain ⟨K, rfl⟩ : ∃ K', K = K' + 1 := ⟨K - 1, by simp at hK; omega⟩
      have hlen : P.length < L.length := by rw [hP]; simp
      rw [F_X11_tellTurns_43_L9]
      refine Ok.f (by rw [n_le] <;> omega) (Ok.f (show ¬ (12 : Int32) ≤ nI P.length from (by rw [n_le (by omega) (by omega)]; omega : ¬ nI 12 ≤ nI P.length)) (Ok.bxe (by omega) (by omega) ?_))
      have hw : L.getD P.length 0 = w := by rw [hP, nat_getD_at]
      rw [n_cl (by omega), s1 x_parting_order _ rfl, h _ hlen, hw, nI_1]
      refine add1 s3 (by simp; omega) (fun I2 J2 d1 d2 d3 => ?_)
      have := ih (P ++ [w]) K (by rw [hP]; simp) (by simp at hK; omega) I2 J2 (Sm.tr (by decide) s1 d2) (Sm.tr (by decide) s2 d3) (by rw [List.map_append]; exact d1)
      rw [List.length_append, List.length_singleton] at this
      exact this
  exact clr1 (fun I2 c1 c2 => lp L [] bgf rfl (by unfold bgf; omega) I2 J c2 Sm.rf c1)
theorem tellX43 {L : List Nat} (hL : L.length ≤ 12) (I : HI) (J : HJ) (h : ∀ k, k < L.length → I x_parting_slots k = nI (L.getD k 0)) : Ok (F_X11_tellTurns_45 (nI L.length) I J) (fun q => tX (L.map tI) q.2.1 q.2.2 ∧ Sm [(x_told, some f_Told_size)] I q.2.1 ∧ Sm [(x_told_numbers, none)] J q.2.2) := by
  unfold F_X11_tellTurns_45
  have lp : ∀ (R P : List Nat) (K : Nat), L = P ++ R → R.length < K → ∀ I' J', Sm [(x_told, some f_Told_size)] I I' → Sm [(x_told_numbers, none)] J J' → tX (P.map tI) I' J' → Ok (F_X11_tellTurns_45_L9 (nI L.length) K (nI P.length) I' J') (fun q => tX (L.map tI) q.2.1 q.2.2 ∧ Sm [(x_told, some f_Told_size)] I q.2.1 ∧ Sm [(x_told_numbers, none)] J q.2.2) := by
    intro R
    induction R with
    | nil =>
      intro P K hP hK I' J' s1 s2 s3
      obtain ⟨K, rfl⟩ : ∃ K', K = K' + 1 := ⟨K - 1, by simp at hK; omega⟩
      rw [List.append_nil] at hP
      rw [← hP] at s3 ⊢
      rw [F_X11_tellTurns_45_L9]
      exact Ok.t (by rw [n_le] <;> omega) (Ok.mk ⟨s3, s1, s2⟩)
    | cons w R ih =>
      intro P K hP hK I' J' s1 s2 s3
      obtain ⟨K, rfl⟩ : ∃ K', K = K' + 1 := ⟨K - 1, by simp at hK; omega⟩
      have hlen : P.length < L.length := by rw [hP]; simp
      rw [F_X11_tellTurns_45_L9]
      refine Ok.f (by rw [n_le] <;> omega) (Ok.f (show ¬ (12 : Int32) ≤ nI P.length from (by rw [n_le (by omega) (by omega)]; omega : ¬ nI 12 ≤ nI P.length)) (Ok.bxe (by omega) (by omega) ?_))
      have hw : L.getD P.length 0 = w := by rw [hP, nat_getD_at]
      rw [n_cl (by omega), s1 x_parting_slots _ rfl, h _ hlen, hw, nI_1]
      refine add1 s3 (by simp; omega) (fun I2 J2 d1 d2 d3 => ?_)
      have := ih (P ++ [w]) K (by rw [hP]; simp) (by simp at hK; omega) I2 J2 (Sm.tr (by decide) s1 d2) (Sm.tr (by decide) s2 d3) (by rw [List.map_append]; exact d1)
      rw [List.length_append, List.length_singleton] at this
      exact this
  exact clr1 (fun I2 c1 c2 => lp L [] bgf rfl (by unfold bgf; omega) I2 J c2 Sm.rf c1)
theorem tellM {L : List Nat} (hL : L.length ≤ 12) (I : HI) (J : HJ) (h : tnM L I) : Ok (F_X12_tellTurns (ui I m_self f_Model_rowMany 0) J) (fun q => tM (L.map tI) q.2.1 q.2.2 ∧ Sm [(m_self, some f_Model_rowMany)] I q.2.1 ∧ Sm [(m_row, none)] J q.2.2) := by
  unfold F_X12_tellTurns
  have lp : ∀ (R P : List Nat) (K : Nat), L = P ++ R → R.length < K → ∀ I' J', Sm [(m_self, some f_Model_rowMany)] I I' → Sm [(m_row, none)] J J' → tM (P.map tI) I' J' → Ok (F_X12_tellTurns_L2 K (nI P.length) I' J') (fun q => tM (L.map tI) q.2.1 q.2.2 ∧ Sm [(m_self, some f_Model_rowMany)] I q.2.1 ∧ Sm [(m_row, none)] J q.2.2) := by
    intro R
    induction R with
    | nil =>
      intro P K hP hK I' J' s1 s2 s3
      obtain ⟨K, rfl⟩ : ∃ K', K = K' + 1 := ⟨K - 1, by simp at hK; omega⟩
      rw [List.append_nil] at hP
      rw [← hP] at s3 ⊢
      rw [F_X12_tellTurns_L2]
      exact Ok.t (by rw [s1 _ _ rfl, h.1, n_le] <;> omega) (Ok.mk ⟨s3, s1, s2⟩)
    | cons w R ih =>
      intro P K hP hK I' J' s1 s2 s3
      obtain ⟨K, rfl⟩ : ∃ K', K = K' + 1 := ⟨K - 1, by simp at hK; omega⟩
      have hlen : P.length < L.length := by rw [hP]; simp
      rw [F_X12_tellTurns_L2]
      refine Ok.f (by rw [s1 _ _ rfl, h.1, n_le] <;> omega) (Ok.bxe (by omega) (by omega) ?_)
      have hw : L.getD P.length 0 = w := by rw [hP, nat_getD_at]
      rw [n_cl (by omega), s1 m_turn _ rfl, h.2 _ hlen, hw, nI_1]
      refine tel1 s3 (by simp; omega) (fun I2 J2 d1 d2 d3 => ?_)
      have := ih (P ++ [w]) K (by rw [hP]; simp) (by simp at hK; omega) I2 J2 (Sm.tr (by decide) s1 d2) (Sm.tr (by decide) s2 d3) (by rw [List.map_append]; exact d1)
      rw [List.length_append, List.length_singleton] at this
      exact this
  exact lp L [] bgf rfl (by unfold bgf; omega) _ J (Sm.mi rfl Sm.rf) Sm.rf ⟨by rw [ui_r]; rfl, fun k h => by cases h⟩
theorem pI_no {a r : Int32} {I : HI} {J : HJ} (h : F_X11_openParting a I J = some (r, I, J)) (hr : ¬ r = 0) : F_X11_partInto a I J = some (r, I, J) := by
  unfold F_X11_partInto
  rw [h]
  show (if r = 0 then _ else _) = _
  rw [if_neg hr]
theorem pI_ok {B : Bd} (hB : OkB B) (hW : bW B ≤ 7) {i : Nat} (hi : i < 4) (I : HI) (J : HJ) (hX : XB B I J) (hT : CTab B I J) (hF : CFlow I J) (hp : pc (J x_notes_pictures i) ≤ 12) : Ok (F_X11_partInto (nI i) I J) (fun q => XB B q.2.1 q.2.2 ∧ rfQ B q.2.1 q.2.2 ∧ mbX (lsP (J x_notes_pictures i) 60) q.2.1 ∧ ((prT B (J x_notes_pictures i) < 99 ∧ q.1 = nI (prT B (J x_notes_pictures i)) ∧ tnX (prL B (J x_notes_pictures i)) q.2.1) ∨ (¬ prT B (J x_notes_pictures i) < 99 ∧ q.1 = -2))) := by
  unfold F_X11_partInto
  refine Ok.call (openP_ok hB hW hi I J hX hT hF hp) (fun r I2 J2 _ hP => ?_)
  obtain ⟨q1, q2, q3, q4, q5⟩ := hP
  simp only at q1 q2 q3 q4 q5
  refine Ok.t q1 (Ok.call ((X4_partB hW (lsP_12 hp) I2 J2 q3.1.2.1 q4 q5).fo (fr_X4_part I2 J2)) (fun r I3 J3 _ hP => ?_))
  obtain ⟨⟨w1, w2⟩, t1, t2⟩ := hP
  simp only at w1 w2 t1 t2
  exact Ok.mk ⟨q2.keep (Ag.of t1 (by decide)) (Ag.of t2 (by decide)), q3.keep (Ag.of t1 (by decide)) (Ag.of t2 (by decide)) (Ag.of t1 (by decide)) (Ag.of t2 (by decide)), ⟨by dsimp only; rw [t1 _ _ rfl]; exact q4.1, fun k hk => by dsimp only; rw [t1 _ _ rfl]; exact q4.2 k hk⟩, w2⟩
theorem OP24 (n : Nat) (b : Bool) (I : HI) (J : HJ) (a1 a2 a3 a4 : Int32) (h : Iv (n + 1) b I J) : Op24 (Iv n) b I J a1 a2 a3 a4 := by
  obtain ⟨B, nb, h⟩ := h
  have hB := h.1
  have hX := h.2.1
  have hM0 := h.2.2.1
  have hTF := h.2.2.2.2.2.2.2.2.2
  have no : ∀ r : Int32, r < 0 → F_X11_openParting a1 I J = some (r, I, J) → F_X12_refusal a1 (ui I m_self f_Model_thrown 0) J = some r → Op24 (Iv n) b I J a1 a2 a3 a4 := by
    intro r r0 e1 e2
    refine ⟨r, I, J, ui I m_self f_Model_thrown 0, J, ?_, ?_, IV_th h (th_s I 0) Sm.rf⟩
    · unfold F_X11_parted
      rw [pI_no e1 (fun e => by rw [e] at r0; exact absurd r0 (by decide))]
      show (if r < 0 then _ else _) = _
      rw [if_pos r0]
    · unfold F_X12_parted
      refine (lb_e _ _).trans ?_
      rw [e2]
      show (if 0 ≤ r then _ else _) = _
      rw [if_neg (fun c => by rw [i_le] at c; rw [i_lt] at r0; exact absurd (Int.lt_of_lt_of_le r0 c) (Int.lt_irrefl _))]
  have hM0' : MB B (ui I m_self f_Model_thrown 0) := hM0.keep (Ag.of (th_s I 0) (by decide))
  rcases i_case a1 4 (by omega) with ⟨i, hi, rfl⟩ | ⟨hn, _⟩
  · obtain ⟨hpm, hpk⟩ := h.2.2.2.2.1.2.2.2.1 i hi
    by_cases hW : bW B ≤ 7
    · by_cases hp12 : pc (J x_notes_pictures i) ≤ 12
      · have hC := lsP_12 hp12
        obtain ⟨p, hpe⟩ : ∃ p, p = J x_notes_pictures i := ⟨_, rfl⟩
        rw [← hpe] at hC
        refine srch h (fr_X11_parted (nI i) I J) (fun I1 J1 => fr_X12_parted (nI i) I1 J1) (by decide) (if prT B p < 99 then nI (prT B p) else -2) (if prT B p < 99 then some ((prL B p).map tI) else none) ?_ ?_
        · unfold F_X11_parted
          refine Ok.call ((pI_ok hB hW hi I J hX hTF.1 hTF.2.1 hp12).fo (fr_X11_partInto _ I J)) (fun r I2 J2 _ hP => ?_)
          obtain ⟨⟨q1, q2, q3, q4⟩, t1, t2⟩ := hP
          simp only at q1 q2 q3 q4 t1 t2
          rw [← hpe] at q4
          rcases q4 with ⟨g1, g2, g3⟩ | ⟨g1, g2⟩
          · have hT := prT_12 hC g1
            have hLl := prL_len g1
            rw [if_pos g1, if_pos g1, g2]
            refine Ok.f (show ¬ nI (prT B p) < nI 0 by rw [n_lt] <;> omega) ?_
            rw [← hLl]
            refine Ok.call (tellX40 (by omega) I2 J2 g3.2) (fun r I3 J3 _ hP => ?_)
            obtain ⟨w1, w2, w3⟩ := hP
            simp only at w1 w2 w3
            exact Ok.mk ⟨rfl, (q2.k1 w2 w3).tab, (q2.k1 w2 w3).2.2, w1⟩
          · rw [if_neg g1, if_neg g1, g2]
            exact Ok.t (by decide) (Ok.mk ⟨rfl, q2.tab, q2.2.2, toX_o t1 t2 (by decide) (by decide)⟩)
        · intro I1 J1 hM hMo u1 u2
          have sT := th_s I1 0
          have hM2 : MB B (ui I1 m_self f_Model_thrown 0) := hM.keep (Ag.of sT (by decide))
          have hpe' : J1 m_pictures i = p := by rw [u2 _ _ rfl, hpm, hpe]
          unfold F_X12_parted
          refine Ok.lbv (Ok.cpe (ref_4 hB hW hi _ J1 hM2) ?_)
          rw [hpe', if_pos (show pc p ≤ 12 by rw [hpe]; exact hp12)]
          refine Ok.t (by decide) (Ok.bxe (by omega) (by omega) ?_)
          rw [n_cl (by omega), hpe']
          refine Ok.call ((X12_findParted hB hW (by rw [hpe]; exact hpk) (by rw [hpe]; exact hp12) _ J1 hM2 (hMo.keep (Ag.of sT (by decide)))).fo (fr_X12_findParted _ _ _)) (fun r I2 J2 _ hP => ?_)
          obtain ⟨⟨q1, q2, q3, _, q4⟩, t1, t2⟩ := hP
          simp only at q1 q2 q3 q4 t1 t2
          rcases q4 with ⟨g1, g2, g3⟩ | ⟨g1, g2⟩
          · have hT := prT_12 hC g1
            have hLl := prL_len g1
            rw [if_pos g1, if_pos g1, g2]
            refine Ok.f (by decide) (Ok.lbv ?_)
            refine Ok.call (tellM (by omega) I2 J2 g3) (fun r I3 J3 _ hP => ?_)
            obtain ⟨w1, w2, w3⟩ := hP
            simp only at w1 w2 w3
            exact Ok.mk ⟨by dsimp only; rw [w2 _ _ rfl, g3.1, hLl], q2.k1 w2, w1⟩
          · rw [if_neg g1, if_neg g1, g2]
            exact Ok.t rfl (Ok.mk ⟨rfl, q2, toM_2 sT t1 t2 (by decide) (by decide) (by decide)⟩)
      · refine no (-4) (by decide) (openP_4 hB hW hi I J hX hp12) ?_
        rw [ref_4 hB hW hi _ J hM0', hpm, if_neg hp12]
    · exact no (-3) (by decide) (openP_3 hB hW hi I J hX) (ref_3 hB hW hi _ J hM0')
  · exact no (-1) (by decide) (openP_1 hn I J) (ref_1 hn _ J)

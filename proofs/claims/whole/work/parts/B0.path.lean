/-! LAYER 2: path, the call -/
noncomputable def ftC (T N : Nat) (an : Nat → Nat → Int64) (u l : Nat) : Option Nat := Classical.choose (ft_ex T N an u l)
theorem ftC_p (T N : Nat) (an : Nat → Nat → Int64) (u l : Nat) : ftQ T N an u l (ftC T N an u l) := Classical.choose_spec (ft_ex T N an u l)
theorem ftC_e {T N : Nat} {an : Nat → Nat → Int64} {u l : Nat} {o : Option Nat} (h : ftQ T N an u l o) : o = ftC T N an u l := ftQ_u h (ftC_p T N an u l)
theorem ftC_s {T N : Nat} {an : Nat → Nat → Int64} {u l t : Nat} (h : ftC T N an u l = some t) : t < T ∧ u.testBit t = false := by
  have := ftC_p T N an u l
  rw [h] at this
  rcases this with ⟨_, h2⟩ | ⟨v, t', _, h2, h3, _, _, h6⟩
  · cases h2
  · injection h6 with h6; subst h6; exact ⟨h2, h3⟩
/-- the tests on the way to l, and what is then known -/
noncomputable def pthS (T N : Nat) (an : Nat → Nat → Int64) (l : Nat) : Nat → Nat → List Nat × Nat
  | 0, u => ([], u)
  | k+1, u => match ftC T N an u l with
    | none => ([], u)
    | some t => (t :: (pthS T N an l k (u ||| 2 ^ t)).1, (pthS T N an l k (u ||| 2 ^ t)).2)
theorem pthS_n {T N : Nat} {an : Nat → Nat → Int64} {l u : Nat} (h : ftC T N an u l = none) : ∀ k, pthS T N an l k u = ([], u)
  | 0 => rfl
  | k+1 => by
    show (match ftC T N an u l with | none => (([], u) : List Nat × Nat) | some t => (t :: (pthS T N an l k (u ||| 2 ^ t)).1, (pthS T N an l k (u ||| 2 ^ t)).2)) = _
    rw [h]
theorem pthS_s {T N : Nat} {an : Nat → Nat → Int64} {l u t : Nat} (h : ftC T N an u l = some t) (k : Nat) : pthS T N an l (k + 1) u = (t :: (pthS T N an l k (u ||| 2 ^ t)).1, (pthS T N an l k (u ||| 2 ^ t)).2) := by
  show (match ftC T N an u l with | none => (([], u) : List Nat × Nat) | some t => (t :: (pthS T N an l k (u ||| 2 ^ t)).1, (pthS T N an l k (u ||| 2 ^ t)).2)) = _
  rw [h]
def msD (T u : Nat) : Nat := pcP T (fun s => !u.testBit s)
theorem ms_some {T N : Nat} {an : Nat → Nat → Int64} {u l t : Nat} (h : ftC T N an u l = some t) : msD T (u ||| 2 ^ t) < msD T u := miss_or (ftC_s h).1 (ftC_s h).2
theorem pthS_p {T N : Nat} {an : Nat → Nat → Int64} (hT : T ≤ 8) {l : Nat} : ∀ (k u : Nat), u < 2 ^ T → msD T u ≤ k → (pthS T N an l k u).1.length ≤ k ∧ (pthS T N an l k u).2 < 2 ^ T ∧ canD T N an 0 (pthS T N an l k u).2 l
  | 0, u, hu, hk => by
    refine ⟨Nat.le_refl _, hu, ?_⟩
    cases hf : ftC T N an u l with
    | none =>
      have := ftC_p T N an u l
      rw [hf] at this
      rcases this with ⟨h1, _⟩ | ⟨_, _, _, _, _, _, _, h6⟩
      · exact h1
      · cases h6
    | some t => have := ms_some hf; omega
  | k+1, u, hu, hk => by
    cases hf : ftC T N an u l with
    | none =>
      rw [pthS_n hf]
      have := ftC_p T N an u l
      rw [hf] at this
      rcases this with ⟨h1, _⟩ | ⟨_, _, _, _, _, _, _, h6⟩
      · exact ⟨Nat.zero_le _, hu, h1⟩
      · cases h6
    | some t =>
      have hms := ms_some hf
      obtain ⟨i1, i2, i3⟩ := pthS_p (N := N) (an := an) hT (l := l) k (u ||| 2 ^ t) (bit_or hT hu (ftC_s hf).1).2 (by omega)
      rw [pthS_s hf]
      exact ⟨by simp only [List.length_cons]; omega, i2, i3⟩
theorem X11_path_75 {T N G : Nat} (hT : T ≤ 8) (hGl : G ≤ 116) {an bn : Nat → Nat → Int64} {gp : Nat → Nat} (hbs : bsD T N G an bn gp) {l : Nat} (hl : l < N) (I0 : HI) (J0 : HJ) (hg : I0 x_plan f_Plan_groups = nI G) (htn : I0 x_plan f_Plan_tests = nI T) (hc : clQ T G bn (2 ^ T) I0) (hd : dpQ T G bn 0 I0) {kx : Int32 → HI → HJ → Option (Int32 × HI × HJ)} {Q : Int32 × HI × HJ → Prop} (F : List Nat) (hx : ∀ I J, tX (F.map tI) I J → Sm [(x_told, some f_Told_size)] I0 I → Sm [(x_told_numbers, none)] J0 J → Ok (kx (nI F.length) I J) Q) : ∀ (k PK u : Nat) (P : List Nat) (I : HI) (J : HJ), k < PK → msD T u ≤ k → P.length + k ≤ 8 → u < 2 ^ T → F = P ++ (pthS T N an l k u).1 → tX (P.map tI) I J → Sm [(x_told, some f_Told_size)] I0 I → Sm [(x_told_numbers, none)] J0 J → Ok (F_X11_path_L75 (nI (gp l)) kx PK (nI u) (nI P.length) (ftI (ftC T N an u l)) (nI P.length) I J) Q := by
  intro k
  induction k with
  | zero =>
    intro PK u P I J hk hm hp hu hF ht s1 s2
    obtain ⟨PK, rfl⟩ : ∃ P', PK = P' + 1 := ⟨PK - 1, by omega⟩
    cases hf : ftC T N an u l with
    | some t => have := ms_some hf; omega
    | none =>
      have hF' : F = P := by rw [hF]; exact List.append_nil P
      subst hF'
      rw [F_X11_path_L75]
      exact Ok.ite (fun _ => hx I J ht s1 s2) (fun _ => Ok.t rfl (hx I J ht s1 s2))
  | succ k ih =>
    intro PK u P I J hk hm hp hu hF ht s1 s2
    obtain ⟨PK, rfl⟩ : ∃ P', PK = P' + 1 := ⟨PK - 1, by omega⟩
    cases hf : ftC T N an u l with
    | none =>
      have hF' : F = P := by rw [hF, pthS_n hf]; exact List.append_nil P
      subst hF'
      rw [F_X11_path_L75]
      exact Ok.ite (fun _ => hx I J ht s1 s2) (fun _ => Ok.t rfl (hx I J ht s1 s2))
    | some t =>
      obtain ⟨f1, f2⟩ := ftC_s hf
      have hms := ms_some hf
      obtain ⟨b1', b2⟩ := bit_or hT hu f1
      rw [F_X11_path_L75]
      refine Ok.f (show ¬ (8 : Int32) ≤ nI P.length from (by rw [n_le (by omega) (by omega)]; omega : ¬ nI 8 ≤ nI P.length)) (Ok.f (n_ne1l (a := t) (by omega)) ?_)
      refine add1 ht (by simp; omega) (fun I14 J15 d1 d2 d3 => Ok.lbv ?_)
      have s3 : Sm [(x_told, some f_Told_size)] I0 I14 := Sm.tr (by decide) s1 d2
      rw [show nI u ||| oshl (1 : Int32) (ftI (some t)) = nI (u ||| 2 ^ t) from b1']
      obtain ⟨o, o1, o2⟩ := X5_first (J := J15) hT hGl b2 (hbs.1 l hl).1 (by rw [s3 _ _ rfl]; exact hg) (by rw [s3 _ _ rfl]; exact htn) (I := I14) (fun u' hu' => ⟨fun g hg' => by rw [s3 _ _ rfl]; exact (hc u' hu').1 g hg', by rw [s3 _ _ rfl]; exact (hc u' hu').2⟩) (fun u' a b' g hg' hl' => by rw [s3 _ _ rfl]; exact hd u' a b' g hg' hl')
      have ho : o = ftC T N an (u ||| 2 ^ t) l := ftC_e ((ft_bi hbs hl).mpr o2)
      refine Ok.cpe o1 ?_
      rw [ho, nI_1]
      have := ih PK (u ||| 2 ^ t) (P ++ [t]) I14 J15 (by omega) (by omega) (by rw [List.length_append, List.length_singleton]; omega) b2 (by rw [hF, pthS_s hf]; simp) (by rw [List.map_append]; exact d1) s3 (Sm.tr (by decide) s2 d3)
      rw [List.length_append, List.length_singleton] at this
      exact this
theorem X12_path_65 {T N : Nat} (hT : T ≤ 8) (hN : N ≤ 116) {an : Nat → Nat → Int64} {l : Nat} (hl : l < N) {kx : Int32 → Int32 → HI → HJ → Option (Int32 × HI × HJ)} {Q : Int32 × HI × HJ → Prop} (F : List Nat × Nat) (hx : ∀ I J, tM (F.1.map tI) I J → CMod I → rQ T N an I J → Ok (kx (nI F.2) (nI F.1.length) I J) Q) : ∀ (k PK u : Nat) (P : List Nat) (I : HI) (J : HJ), k < PK → msD T u ≤ k → P.length + k ≤ 8 → u < 2 ^ T → F.1 = P ++ (pthS T N an l k u).1 → F.2 = (pthS T N an l k u).2 → tM (P.map tI) I J → CMod I → rQ T N an I J → Ok (F_X12_path_L65 (nI l) kx PK (nI u) (nI P.length) (ftI (ftC T N an u l)) I J) Q := by
  intro k
  induction k with
  | zero =>
    intro PK u P I J hk hm hp hu hF hF2 ht hMo hr
    obtain ⟨PK, rfl⟩ : ∃ P', PK = P' + 1 := ⟨PK - 1, by omega⟩
    cases hf : ftC T N an u l with
    | some t => have := ms_some hf; omega
    | none =>
      have hF' : F.1 = P := by rw [hF]; exact List.append_nil P
      have hF2' : F.2 = u := hF2
      rw [F_X12_path_L65]
      rw [← hF'] at ht ⊢
      rw [← hF2']
      exact Ok.t rfl (hx I J ht hMo hr)
  | succ k ih =>
    intro PK u P I J hk hm hp hu hF hF2 ht hMo hr
    obtain ⟨PK, rfl⟩ : ∃ P', PK = P' + 1 := ⟨PK - 1, by omega⟩
    cases hf : ftC T N an u l with
    | none =>
      have hF' : F.1 = P := by rw [hF, pthS_n hf]; exact List.append_nil P
      have hF2' : F.2 = u := by rw [hF2, pthS_n hf]
      rw [F_X12_path_L65]
      rw [← hF'] at ht ⊢
      rw [← hF2']
      exact Ok.t rfl (hx I J ht hMo hr)
    | some t =>
      obtain ⟨f1, f2⟩ := ftC_s hf
      have hms := ms_some hf
      have hp1 : (2 : Nat) ^ T ≤ 2 ^ 8 := Nat.pow_le_pow_right (by omega) hT
      obtain ⟨b1', b2⟩ := bit_or hT hu f1
      rw [F_X12_path_L65]
      refine Ok.f (n_ne1l (a := t) (by omega)) ?_
      refine tel1 ht (by simp; omega) (fun I17 J18 d1 d2 d3 => Ok.lbv ?_)
      have hr17 := hr.ko d2 d3
      obtain ⟨l1, l2, _⟩ := ldr_p T an (u ||| 2 ^ t) l
      rw [show nI u ||| oshl (1 : Int32) (ftI (some t)) = nI (u ||| 2 ^ t) from b1']
      refine Ok.cpe (X12_firstOf (by omega) (by omega)) ?_
      rw [hr17.2.2.1 _ l b2 hl]
      refine Ok.call (X12_first hT hN b2 (show ldr T an (u ||| 2 ^ t) l < N by omega) I17 J18 hr17) (fun r21 I22 J23 _ hP => ?_)
      obtain ⟨o, o1, o2, o3, o4, o5⟩ := hP
      simp only at o1 o3 o4 o5
      subst o3
      have ho : o = ftC T N an (u ||| 2 ^ t) l := ftC_e (ftQ_al (by omega) hl l2 o2)
      rw [o1, ho, nI_1]
      have := ih PK (u ||| 2 ^ t) (P ++ [t]) I22 J23 (by omega) (by omega) (by rw [List.length_append, List.length_singleton]; omega) b2 (by rw [hF, pthS_s hf]; simp) (by rw [hF2, pthS_s hf]) ⟨by rw [o4 _ _ rfl, List.map_append]; exact d1.1, by rw [List.map_append]; exact d1.2⟩ ((hMo.k1 d2).keep (Ag.of o4 (by decide))) (hr17.kd o4 o5)
      rw [List.length_append, List.length_singleton] at this
      exact this
theorem agL_inj {B : Bd} {m : Nat} {sh sl : Nat → Int32} {sg : Nat → Int64} {n i j : Nat} (hi : i < (agL B m sh sl sg n).length) (hj : j < (agL B m sh sl sg n).length) (h : (agL B m sh sl sg n).getD i 0 = (agL B m sh sl sg n).getD j 0) : i = j := by
  have hn : (agL B m sh sl sg n).Pairwise (· < ·) := List.Pairwise.filter _ List.pairwise_lt_range
  rw [List.getD_eq_getElem?_getD, List.getD_eq_getElem?_getD, List.getElem?_eq_getElem hi, List.getElem?_eq_getElem hj] at h
  have h' : (agL B m sh sl sg n)[i] = (agL B m sh sl sg n)[j] := h
  rcases Nat.lt_trichotomy i j with c | c | c
  · have := List.pairwise_iff_getElem.mp hn i j hi hj c; omega
  · exact c
  · have := List.pairwise_iff_getElem.mp hn j i hj hi c; omega
theorem agL_at {B : Bd} {m : Nat} {sh sl : Nat → Int32} {sg : Nat → Int64} {n f : Nat} (hf : f < n) (h : fsS (dis B sh sl sg f) m = none) : ∃ l, l < (agL B m sh sl sg n).length ∧ (agL B m sh sl sg n).getD l 0 = f ∧ ∀ k, k < l → (agL B m sh sl sg n).getD k 0 ≠ f := by
  have hm : f ∈ agL B m sh sl sg n := by
    unfold agL
    rw [List.mem_filter, List.mem_range, h]
    exact ⟨hf, rfl⟩
  obtain ⟨l, h1, h2⟩ := List.getElem_of_mem hm
  have h3 : (agL B m sh sl sg n).getD l 0 = f := by rw [List.getD_eq_getElem?_getD, List.getElem?_eq_getElem h1]; exact h2
  refine ⟨l, h1, h3, fun k hk e => ?_⟩
  have := agL_inj (show k < (agL B m sh sl sg n).length by omega) h1 (e.trans h3.symm)
  omega
def paC (gr : HI → HJ → Option (Unit × HI × HJ)) (l1 : Int32) (I : HI) (J : HJ) : Option (Int32 × HI × HJ) :=
  cp (F_X7_has l1 I J) fun r2 =>
  if r2 = 0 then
    some ((-1 : Int32), I, J)
  else
    cl (F_X7_firstAgainst l1 I J) fun r3 I4 J5 =>
    if r3 = (-2 : Int32) then
      cl (F_X7_gather I4 J5) fun _ I6 J7 =>
      cl (gr I6 J7) fun _ I8 J9 =>
      F_X11_path_C40 l1 I8 J9
    else
      some ((-1 : Int32), I4, J5)
theorem fr_paC {gr : HI → HJ → Option (Unit × HI × HJ)} (hg : grO gr) (l1 : Int32) (I : HI) (J : HJ) : Fo wi_X11_path wjT I J (paC gr l1 I J) := by
  unfold paC
  refine Fo.callp (fun r2 => Fo.ite (Fo.some Sm.rf Sm.rf) ?_)
  refine Fo.call (fr_X7_firstAgainst l1 I J) (by decide) (by decide) Sm.rf Sm.rf (fun r3 I4 J5 hI4 hJ5 => Fo.ite ?_ (Fo.some hI4 hJ5))
  refine Fo.call (fr_X7_gather I4 J5) (by decide) (by decide) hI4 hJ5 (fun _ I6 J7 hI6 hJ7 => ?_)
  refine Fo.call (hg.1 I6 J7) (by decide) (by decide) hI6 hJ7 (fun _ I8 J9 hI8 hJ9 => ?_)
  intro r I' J' e
  obtain ⟨a, b⟩ := fr_X11_path_C40 I8 J9 l1 I8 J9 Sm.rf Sm.rf r I' J' e
  exact ⟨Sm.tr (by decide) hI8 a, Sm.tr (by decide) hJ9 b⟩

/-! LAYER 2: the class's paths -/
theorem X1_note_L (p : List Nat) (I0 : HI) (J : HJ) (hp : wWay p I0) (h3 : p.length ≤ 3) :
    ∀ K i, i ≤ p.length → p.length - i < K → ∀ I, ((∀ k, k < i → I x_flow_bestWay k = nI (p.getD k 0)) ∧ Sm [(x_flow_bestWay, none)] I0 I) → Ok (F_X1_noteWay_L154 (nI p.length) J K (nI i) I) (fun q => q.2.2 = J ∧ (∀ k, k < p.length → q.2.1 x_flow_bestWay k = nI (p.getD k 0)) ∧ Sm [(x_flow_bestWay, none)] I0 q.2.1) := by
  refine up ?_ ?_
  · intro K I h
    rw [F_X1_noteWay_L154, if_pos (by rw [n_le] <;> omega)]
    exact Ok.mk ⟨rfl, h.1, h.2⟩
  · intro K i hi ih I h
    have e : I x_flow_way i = nI (p.getD i 0) := by rw [h.2 _ _ rfl]; exact hp i hi
    rw [F_X1_noteWay_L154, if_neg (by rw [n_le] <;> omega)]
    simp (disch := omega) only [n_cl, n_bx, e, lb, nI_1]
    refine ih _ ⟨fun k hk => ?_, Sm.mi rfl h.2⟩
    rw [ui_s]
    by_cases c : k = i
    · subst c; rw [if_pos rfl]
    · rw [if_neg c]; exact h.1 k (by omega)
theorem X1_note (p : List Nat) (c : Nat) (m : Nat × List Nat) (I : HI) (J : HJ) (hp : wWay p I) (h3 : p.length ≤ 3) (g3 : m.2.length ≤ 3) (hlt : ∀ k, k ∈ p → k < 60) (hlm : ∀ k, k ∈ m.2 → k < 60) (hc : c < 1000000) (hm : m.1 < 1000000) (hb : bsX m I J) :
    Ok (F_X1_noteWay (nI p.length) (lN c) I J) (fun q => q.2.1 x_flow f_Flow_passing = I x_flow f_Flow_passing + nI 1 ∧ bsX (if btr c p m.1 m.2 then (c, p) else m) q.2.1 q.2.2) := by
  unfold F_X1_noteWay
  simp only [lb, lit32, cmg, cm0]
  generalize hI : ui I x_flow f_Flow_passing (I x_flow f_Flow_passing + nI 1) = I5
  have e0 : I5 x_flow f_Flow_passing = I x_flow f_Flow_passing + nI 1 := by rw [← hI, ui_r]
  have s5 : Sm [(x_flow, some f_Flow_passing)] I I5 := by rw [← hI]; exact Sm.mi rfl Sm.rf
  have hp5 : wWay p I5 := fun k hk => by rw [s5 _ _ rfl]; exact hp k hk
  have hb5 : bsX m I5 J := ⟨hb.1, by rw [s5 _ _ rfl]; exact hb.2.1, fun k hk => by rw [s5 _ _ rfl]; exact hb.2.2 k hk⟩
  rw [hb.1, hb5.2.1]
  have hT : btr c p m.1 m.2 = true → Ok (F_X1_noteWay_L154 (nI p.length) (uj J x_flow f_Flow_best (lN c)) bgf (nI 0) (ui I5 x_flow f_Flow_bestSize (nI p.length))) (fun q => q.2.1 x_flow f_Flow_passing = I x_flow f_Flow_passing + nI 1 ∧ bsX (if btr c p m.1 m.2 then (c, p) else m) q.2.1 q.2.2) := by
    intro hT
    refine (X1_note_L p (ui I5 x_flow f_Flow_bestSize (nI p.length)) (uj J x_flow f_Flow_best (lN c)) (fun k hk => by rw [ui_c (by decide)]; exact hp5 k hk) h3 bgf 0 (by omega) (by unfold bgf; omega) _ ⟨fun k hk => by omega, Sm.rf⟩).mono (fun q hq => ?_)
    obtain ⟨q1, q2, q3⟩ := hq
    refine ⟨?_, ?_⟩
    · rw [q3 _ _ rfl, ui_j (by decide), e0]
    · rw [hT, if_pos rfl]
      refine ⟨by rw [q1, uj_r], by rw [q3 _ _ rfl, ui_r], q2⟩
  generalize hkx : (fun (y14 : Int32) => if y14 = nI 0 then some ((), I5, J) else F_X1_noteWay_L154 (nI p.length) (uj J x_flow f_Flow_best (lN c)) bgf (nI 0) (ui I5 x_flow f_Flow_bestSize (nI p.length))) = kx
  have hK : ∀ t, btr c p m.1 m.2 = t → Ok (kx (b1 t)) (fun q => q.2.1 x_flow f_Flow_passing = I x_flow f_Flow_passing + nI 1 ∧ bsX (if btr c p m.1 m.2 then (c, p) else m) q.2.1 q.2.2) := by
    intro t ht
    rw [← hkx]
    cases t with
    | false =>
      simp only [if_pos (show b1 false = nI 0 by decide)]
      exact Ok.mk ⟨e0, by rw [ht]; exact hb5⟩
    | true =>
      simp only [if_neg (show ¬ b1 true = nI 0 by decide)]
      exact hT ht
  have hg : bgf = 999999 + 1 := rfl
  have hS : ∀ x i, F_X1_noteWay_L70 (nI p.length) (lN c) I5 J kx bgf x (nI 0) i = kx x := by
    intro x i; rw [hg]; exact X1_stop _ _ _ _ _ _ _ _
  by_cases c2 : c = m.1
  · subst c2
    rw [if_neg (show ¬ lN m.1 < lN m.1 by rw [L_lt (by omega) (by omega)]; omega)]
    simp only [if_true]
    have e : btr m.1 p m.1 m.2 = (if p.length = m.2.length then ltW p m.2 else decide (p.length < m.2.length)) := by unfold btr; rw [if_pos rfl]
    by_cases d : p.length = m.2.length
    · rw [if_pos (show nI m.2.length ≤ nI p.length by rw [n_le] <;> omega), if_pos (show nI p.length = nI m.2.length by rw [d])]
      rw [(X1_less p m I5 J hp5 h3 g3 hlt hlm hb5 (lN m.1) kx d bgf 0 (by omega) (by unfold bgf; omega)).2 (fun k hk => by omega)]
      exact hK _ (by rw [e, if_pos d])
    · rw [if_neg d] at e
      simp only [if_neg (show ¬ nI p.length = nI m.2.length by rw [n_eq] <;> omega), hS]
      by_cases d2 : m.2.length ≤ p.length
      · rw [if_pos (show nI m.2.length ≤ nI p.length by rw [n_le] <;> omega)]
        exact hK false (by rw [e]; simp; omega)
      · rw [if_neg (show ¬ nI m.2.length ≤ nI p.length by rw [n_le] <;> omega)]
        exact hK true (by rw [e]; simp; omega)
  · have e : btr c p m.1 m.2 = decide (m.1 < c) := by unfold btr; rw [if_neg c2]
    simp only [if_neg (show ¬ lN c = lN m.1 by rw [L_eq (by omega) (by omega)]; exact c2), hS]
    by_cases d : m.1 < c
    · rw [if_pos (show lN m.1 < lN c by rw [L_lt (by omega) (by omega)]; exact d)]
      exact hK true (by rw [e]; simp; omega)
    · rw [if_neg (show ¬ lN m.1 < lN c by rw [L_lt (by omega) (by omega)]; exact d)]
      exact hK false (by rw [e]; simp; omega)
theorem sh_all : ∀ n : Fin 12, 1 ≤ n.val → Int32.toInt64 (shI n.val) = lN (27720 / n.val) ∧ 0 < 27720 / n.val ∧ 27720 / n.val ≤ 27720 := by decide
theorem any_wt (p : List Nat) (wt : Option Nat) : p.any (wtB wt) = (match wt with | none => false | some a => p.contains a) := by
  cases wt with
  | none => simp [wtB]
  | some a =>
    simp only
    induction p with
    | nil => rfl
    | cons x p ih =>
      rw [List.any_cons, ih, List.contains_cons]
      show (decide (x = a) || _) = _
      congr 1
      by_cases c : x = a
      · subst c; simp
      · have : ¬ a = x := fun h => c h.symm
        simp [c, this]
theorem X1_carry (wt : Option Nat) (ps : List Pa) (s e os oe x : Nat) (p : List Nat) (I : HI) (J : HJ) (hs : s < 10) (he : e < 10) (hos : I x_flow_ohms s = nI os) (hoe : I x_flow_ohms e = nI oe) (ko : os ≤ 4) (ke : oe ≤ 4) (h1 : 1 ≤ p.length) (h3 : p.length ≤ 3) (hlt : ∀ k, k ∈ p → k < 60) (hx1 : 1 ≤ x) (hx : x ≤ 20) (hp : wWay p I) (hwo : wtOk wt) (hok : ∀ q, q ∈ ps → okP q) (hR : RX wt ps I J) :
    Ok (F_X1_carry (nI s) (nI e) (nI p.length) (nI x) I J) (fun q => RX wt (ps ++ [(s, p, e, x * (27720 / (os + oe + p.length)))]) q.2.1 q.2.2) := by
  obtain ⟨r1, r2, r3, r4, r5⟩ := hR
  unfold F_X1_carry
  generalize hn : os + oe + p.length = n
  have hn1 : 1 ≤ n := by omega
  have hn2 : n < 12 := by omega
  obtain ⟨a1, a2, a3⟩ := sh_all ⟨n, hn2⟩ hn1
  simp only at a1 a2 a3
  simp (disch := omega) only [n_cl, n_bx, lb, hos, hoe, nI_add, hn, lit32, n_lt, n_l, a1, lN_mul]
  rw [if_neg (by omega), if_pos hn2]
  generalize hc : x * (27720 / n) = c
  have c0 : 0 < c := by rw [← hc]; exact Nat.mul_pos hx1 a2
  have c9 : c < 1000000 := by
    have : x * (27720 / n) ≤ 20 * 27720 := Nat.mul_le_mul hx a3
    omega
  refine X1_carry_L (nI s) (nI e) I J p c wt hp hlt h3 r4 hwo _ _ ?_ bgf 0 (by omega) (by unfold bgf; omega) J ⟨fun k _ => ?_, fun k _ => ?_, Sm.rf⟩
  · intro J1 hJ1
    obtain ⟨i1, i2, i3⟩ := hJ1
    rw [List.take_length] at i1 i2
    generalize hJ3 : uj (uj J1 x_flow_drawn s (J1 x_flow_drawn s + lN c)) x_flow_drawn e (uj J1 x_flow_drawn s (J1 x_flow_drawn s + lN c) x_flow_drawn e + lN c) = J3
    have s3 : Sm [(x_flow_drawn, none)] J1 J3 := by rw [← hJ3]; exact Sm.mj rfl (Sm.mj rfl Sm.rf)
    have k1 : ∀ k, k < 64 → J3 x_flow_light k = lN (liT (ps ++ [(s, p, e, c)]) k) := fun k hk => by
      rw [s3 _ _ rfl, i1 k hk, r1 k hk, lN_add, liT_a, liT_1]
    have k2 : ∀ k, k < 64 → bt (J3 x_flow f_Flow_lit) k = onT (ps ++ [(s, p, e, c)]) k := fun k hk => by
      rw [s3 _ _ rfl, i2 k hk, r2 k hk, onT_a, onT_1]
    have k3 : ∀ w, w < 10 → J3 x_flow_drawn w = lN (drT (ps ++ [(s, p, e, c)]) w) := fun w hw => by
      have q0 : ∀ w, w < 10 → J1 x_flow_drawn w = lN (drT ps w) := fun w hw => by rw [i3 _ _ rfl]; exact r3 w hw
      rw [← hJ3, uj_s, uj_s, uj_s, drT_a, drT_1]
      simp only
      by_cases c1 : w = e
      · rw [if_pos c1]
        by_cases c2 : e = s
        · subst c1; subst c2
          simp only [if_true]
          rw [q0 w hw, lN_add, lN_add, Nat.add_assoc]
        · subst c1
          have c3 : ¬ s = w := fun h => c2 h.symm
          rw [if_neg c2, if_neg c3, if_pos rfl, q0 w hw, lN_add, Nat.zero_add]
      · rw [if_neg c1]
        have c1' : ¬ e = w := fun h => c1 h.symm
        by_cases c2 : w = s
        · subst c2
          rw [if_pos rfl, if_pos rfl, if_neg c1', q0 w hw, lN_add, Nat.add_zero]
        · have c3 : ¬ s = w := fun h => c2 h.symm
          rw [if_neg c2, if_neg c3, if_neg c1', q0 w hw]
          simp
    cases wt with
    | none =>
      rw [if_pos (by rw [b1_0, any_wt])]
      exact Ok.mk ⟨k1, k2, k3, r4, fun a h => by cases h⟩
    | some a =>
      obtain ⟨t1, t2⟩ := r5 a rfl
      obtain ⟨v1, v2, v3⟩ := bsT_ok a ps hok
      have hb3 : bsX (bsT a ps) I J3 := ⟨by rw [s3 _ _ rfl, i3 _ _ rfl]; exact t2.1, t2.2⟩
      cases hct : p.contains a with
      | false =>
        rw [if_pos (by rw [b1_0, any_wt]; exact hct)]
        refine Ok.mk ?_
        dsimp only
        refine ⟨k1, k2, k3, r4, fun a' h => ?_⟩
        cases h
        refine ⟨?_, ?_⟩
        · rw [psT_a, psT_1, t1]; simp only [hct]; rfl
        · rw [bsT_a]
          have : bs1 a (bsT a ps) (s, p, e, c) = bsT a ps := by unfold bs1; simp only [hct]; simp
          rw [this]; exact hb3
      | true =>
        rw [if_neg (by rw [b1_0, any_wt]; simp only [hct]; simp)]
        have hnote := (X1_note p c (bsT a ps) I J3 hp h3 v1 hlt v2 c9 v3 hb3).fo (fr_X1_noteWay (nI p.length) (lN c) I J3)
        refine Ok.call hnote (fun r I2 J2 _ hP => Ok.mk ?_)
        dsimp only
        obtain ⟨⟨n1, n2⟩, n3, n4⟩ := hP
        simp only at n1 n2 n3 n4
        refine ⟨fun k hk => by rw [n4 _ _ rfl]; exact k1 k hk, fun k hk => by rw [n4 _ _ rfl]; exact k2 k hk, fun w hw => by rw [n4 _ _ rfl]; exact k3 w hw, by rw [n3 _ _ rfl]; exact r4, fun a' h => ?_⟩
        cases h
        refine ⟨?_, ?_⟩
        · rw [psT_a, psT_1, n1, t1]; simp only [hct, if_true]; exact nI_add _ _
        · rw [bsT_a]
          have : bs1 a (bsT a ps) (s, p, e, c) = (if btr c p (bsT a ps).1 (bsT a ps).2 then (c, p) else bsT a ps) := by unfold bs1; simp only [hct, Bool.true_and]
          rw [this]; exact n2
  · simp [show lN 0 = 0 from rfl]
  · simp

/-! LAYER 2: parting, opened by both -/
theorem mb_add {C : List Nat} {x cs : Nat} : ∀ {k : Nat}, k < (C ++ [x]).length → k ≠ C.length → k < C.length := by
  intro k hk c
  rw [List.length_append, List.length_singleton] at hk
  omega
/-- covers by the class -/
def cvX (B : Bd) (p : Int64) (i : Nat) (I : HI) : Prop := ∀ s, s < i → I x_parting_cover s = cvI B p s
def cvM (B : Bd) (p : Int64) (i : Nat) (I : HI) : Prop := ∀ s, s < i → I m_shownBy s = cvI B p s
theorem X4_open {B : Bd} {p : Int64} (hp12 : pc p ≤ 12) (I : HI) (J : HJ) (hT : tabOk B I J) : Ok (F_X4_open p I J) (fun q => mbX (lsP p 60) q.2.1 ∧ cvX B p (3 ^ bW B) q.2.1 ∧ q.2.2 = J) := by
  have hp := p3_le hT.1
  have hlen : ∀ k, k ≤ 60 → (lsP p k).length ≤ 12 := fun k hk => by
    rw [lsP_len]
    have : pcP k (bt p) ≤ pcP 64 (bt p) := pc_mono (by omega)
    have : pcP 64 (bt p) = pc p := rfl
    omega
  unfold F_X4_open
  refine Ok.lbv ?_
  have l2 : ∀ I, tabOk B I J → mbX (lsP p 60) I → Ok (F_X4_open_L60 p J bgf (0 : Int32) I) (fun q => mbX (lsP p 60) q.2.1 ∧ cvX B p (3 ^ bW B) q.2.1 ∧ q.2.2 = J) := by
    intro I hT hm
    have hl : ∀ K s, s ≤ 3 ^ bW B → 3 ^ bW B - s < K → ∀ I, tabOk B I J → mbX (lsP p 60) I → cvX B p s I → Ok (F_X4_open_L60 p J K (nI s) I) (fun q => mbX (lsP p 60) q.2.1 ∧ cvX B p (3 ^ bW B) q.2.1 ∧ q.2.2 = J) := by
      refine up ?_ ?_
      · intro K I hT hm hc
        rw [F_X4_open_L60]
        exact Ok.t (by rw [hT.2.1, n_le] <;> omega) (Ok.mk ⟨hm, hc, rfl⟩)
      · intro K s hs ih I hT hm hc
        rw [F_X4_open_L60]
        refine Ok.f (by rw [hT.2.1, n_le] <;> omega) (Ok.cpe (X8_turn hT p s hs) (Ok.lbv ?_))
        have body : ∀ y, y = cvI B p s → Ok (bx (nI s) 2187 <| lb (ui I x_parting_cover (Int32.toNatClampNeg (nI s)) y) fun I15 => F_X4_open_L60 p J K (nI s + 1) I15) (fun q => mbX (lsP p 60) q.2.1 ∧ cvX B p (3 ^ bW B) q.2.1 ∧ q.2.2 = J) := by
          intro y hy
          refine Ok.bxe (by omega) (by omega) (Ok.lbv ?_)
          rw [n_cl (by omega), nI_1, hy]
          have s0 : Sm [(x_parting_cover, none)] I (ui I x_parting_cover s (cvI B p s)) := Sm.mi rfl Sm.rf
          refine ih _ (hT.keep (Ag.of s0 (by decide)) (fun _ _ _ => rfl)) ⟨by rw [s0 _ _ rfl]; exact hm.1, fun k hk => by rw [s0 _ _ rfl]; exact hm.2 k hk⟩ (fun s' hs' => ?_)
          rw [ui_s]
          by_cases c : s' = s
          · rw [if_pos c, c]
          · rw [if_neg c]; exact hc s' (by omega)
        cases ht : isT B p s with
        | false => exact Ok.t rfl (body 0 (by unfold cvI; rw [ht]; rfl))
        | true =>
          refine Ok.f (by decide) (Ok.bxe (by omega) (by omega) ?_)
          rw [n_cl (by omega), (hT.2.2.1 s hs).1]
          refine Ok.cpe (X4_numbered (hlen 60 (by omega)) (fun k hk => lsP_lt hk) _ hm) (body _ ?_)
          unfold cvI; rw [ht]; rfl
    exact hl bgf 0 (Nat.zero_le _) (by unfold bgf; omega) I hT hm (fun s hs => by omega)
  have l1 : ∀ K k, k ≤ 60 → 60 - k < K → ∀ I, tabOk B I J → mbX (lsP p k) I → Ok (F_X4_open_L7 p J (fun (I10 : HI) => F_X4_open_L60 p J bgf (0 : Int32) I10) K (nI k) I) (fun q => mbX (lsP p 60) q.2.1 ∧ cvX B p (3 ^ bW B) q.2.1 ∧ q.2.2 = J) := by
    refine up ?_ ?_
    · intro K I hT hm
      rw [F_X4_open_L7]
      exact Ok.t (show (60 : Int32) ≤ nI 60 by decide) (l2 I hT hm)
    · intro K k hk ih I hT hm
      have hk12 := hlen k (by omega)
      rw [F_X4_open_L7]
      refine Ok.f (show ¬ (60 : Int32) ≤ nI k from (by rw [n_le (by omega) (by omega)]; omega : ¬ nI 60 ≤ nI k)) ?_
      rw [hm.1]
      refine Ok.ite (fun c => ?_) (fun c => ?_)
      · have c' : nI 12 ≤ nI (lsP p k).length := c
        rw [n_le (by omega) (by omega)] at c'
        have h60 := hlen 60 (by omega)
        refine l2 I hT ?_
        rw [lsP_end p (show k ≤ 60 by omega) (by omega)]; exact hm
      · have c' : ¬ nI 12 ≤ nI (lsP p k).length := c
        rw [n_le (by omega) (by omega)] at c'
        refine Ok.lbv ?_
        rw [nI_1, show (1 : Int64) = lN 1 from rfl, t_u (by omega)]
        rw [lsP_s] at ih
        cases hb : bt p k with
        | false =>
          rw [hb] at ih
          exact Ok.t (by rfl) (ih I hT hm)
        | true =>
          rw [hb] at ih
          refine Ok.f (by decide) (Ok.bxe (by omega) (by omega) (Ok.lbv (Ok.lbv ?_)))
          have s0 : Sm [(x_parting_lampAt, none), (x_parting, some f_Parting_lamps)] I (ui (ui I x_parting_lampAt (lsP p k).length (nI k)) x_parting f_Parting_lamps (nI ((lsP p k).length + 1))) := Sm.mi rfl (Sm.mi rfl Sm.rf)
          rw [n_cl (by omega), ui_c (show x_parting ≠ x_parting_lampAt by decide), hm.1, nI_1]
          refine ih _ (hT.keep (Ag.of s0 (by decide)) (fun _ _ _ => rfl)) ⟨by rw [ui_r]; simp, fun j hj => ?_⟩
          rw [ui_c (by decide), ui_s]
          show _ = nI ((lsP p k ++ [k]).getD j 0)
          rw [getD_ap1]
          by_cases d : j = (lsP p k).length
          · rw [if_pos d, if_pos d]
          · rw [if_neg d, if_neg d]; exact hm.2 j (mb_add (cs := 0) hj d)
  have s0 : Sm [(x_parting, some f_Parting_lamps)] I (ui I x_parting f_Parting_lamps 0) := Sm.mi rfl Sm.rf
  exact l1 bgf 0 (Nat.zero_le _) (by unfold bgf; omega) _ (hT.keep (Ag.of s0 (by decide)) (fun _ _ _ => rfl)) ⟨by rw [ui_r]; rfl, fun k hk => by cases hk⟩

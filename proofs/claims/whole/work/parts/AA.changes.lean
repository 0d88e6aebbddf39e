/-! LAYER 2: changes: the reference's orders, the call -/
def oM (T : Nat) (st : Nat × List Nat) (I : HI) : Prop := (st.1 < 43 ∧ I m_self f_Model_leastChanges = nI st.1 ∧ ∀ k, k < T → I m_bestOrder k = nI (st.2.getD k 0)) ∨ (st.1 = 43 ∧ I m_self f_Model_leastChanges = -1)
abbrev omW : Pl := [(m_order, none), (m_bestOrder, none), (m_self, some f_Model_leastChanges)]
theorem X12_goOrders {L : List Nat} {w : Nat} (hL : L.length ≤ 6) (hw : w ≤ 7) (hl : ∀ e, e ∈ L → e < 3 ^ w) : ∀ (n N : Nat) (u : Int32) (la c : Nat) (pre : List Nat) (st : Nat × List Nat) (I : HI) (J : HJ), n < N → pre.length + n = L.length → la < 3 ^ w → c + 7 * n ≤ 42 → I m_self f_Model_wide = nI w → (∀ k, k < pre.length → I m_order k = nI (pre.getD k 0)) → oM L.length st I → tnM L I → Ok (F_X12_goOrders N (nI pre.length) u (nI la) (nI c) I J) (fun q => q.2.2 = J ∧ Sm omW I q.2.1 ∧ oM L.length (goS L.length L w n u la c pre st) q.2.1 ∧ ∀ k, k < pre.length → q.2.1 m_order k = nI (pre.getD k 0)) := by
  have h3 := p3_le hw
  intro n
  induction n with
  | zero =>
    intro N u la c pre st I J hN hp hla hc hwd ht ho hn
    obtain ⟨N, rfl⟩ : ∃ N', N = N' + 1 := ⟨N - 1, by omega⟩
    rw [F_X12_goOrders]
    unfold F_X12_goOrders_B
    refine Ok.t (by rw [hn.1, n_eq] <;> omega) (Ok.lbv ?_)
    have take : c < st.1 → Ok (lb (ui I m_self f_Model_leastChanges (nI c)) fun I13 => F_X12_goOrders_L35 (F_X12_goOrders N) (nI pre.length) J bgf (0 : Int32) I13) (fun q => q.2.2 = J ∧ Sm omW I q.2.1 ∧ oM L.length (goS L.length L w 0 u la c pre st) q.2.1 ∧ ∀ k, k < pre.length → q.2.1 m_order k = nI (pre.getD k 0)) := by
      intro hlt
      have e : goS L.length L w 0 u la c pre st = (c, pre) := if_pos hlt
      rw [e]
      refine Ok.lbv ?_
      have lp : ∀ K i, i ≤ pre.length → pre.length - i < K → ∀ I', Sm [(m_bestOrder, none)] (ui I m_self f_Model_leastChanges (nI c)) I' → (∀ k, k < i → I' m_bestOrder k = nI (pre.getD k 0)) → Ok (F_X12_goOrders_L35 (F_X12_goOrders N) (nI pre.length) J K (nI i) I') (fun q => q.2.2 = J ∧ Sm omW I q.2.1 ∧ oM L.length (c, pre) q.2.1 ∧ ∀ k, k < pre.length → q.2.1 m_order k = nI (pre.getD k 0)) := by
        refine up ?_ ?_
        · intro K I' s1 s2
          rw [F_X12_goOrders_L35]
          refine Ok.t (by rw [n_le] <;> omega) (Ok.mk ⟨rfl, Sm.tr (by decide) (Sm.mi rfl Sm.rf) s1, Or.inl ⟨by dsimp only; omega, by dsimp only; rw [s1 _ _ rfl, ui_r], fun k hk => s2 k (by omega)⟩, fun k hk => ?_⟩)
          dsimp only
          rw [s1 _ _ rfl, ui_c (by decide)]; exact ht k hk
        · intro K i hi ih I' s1 s2
          rw [F_X12_goOrders_L35]
          refine Ok.f (by rw [n_le] <;> omega) (Ok.bxe (by omega) (by omega) (Ok.bxe (by omega) (by omega) (Ok.lbv ?_)))
          rw [n_cl (by omega), s1 m_order _ rfl, ui_c (by decide), ht i hi, nI_1]
          refine ih _ (Sm.mi rfl s1) (fun k hk => ?_)
          rw [ui_s]
          by_cases e : k = i
          · rw [if_pos e, e]
          · rw [if_neg e]; exact s2 k (by omega)
      exact lp bgf 0 (Nat.zero_le _) (by unfold bgf; omega) _ Sm.rf (fun k h => absurd h (Nat.not_lt_zero _))
    rcases ho with ⟨o1, o2, o3⟩ | ⟨o1, o2⟩
    · rw [o2]
      refine Ok.f (fun e => (n_ne1 (a := st.1) (by omega)).mp e) ?_
      by_cases c1 : c < st.1
      · exact Ok.t (by rw [n_lt] <;> omega) (take c1)
      · refine Ok.f (by rw [n_lt] <;> omega) (Ok.mk ⟨rfl, Sm.rf, ?_, ht⟩)
        rw [goS_pr _ _ _ _ _ _ (by omega)]; exact Or.inl ⟨o1, o2, o3⟩
    · exact Ok.t o2 (take (by omega))
  | succ n ih =>
    intro N u la c pre st I J hN hp hla hc hwd ht ho hn
    obtain ⟨N, rfl⟩ : ∃ N', N = N' + 1 := ⟨N - 1, by omega⟩
    rw [F_X12_goOrders]
    unfold F_X12_goOrders_B
    refine Ok.f (by rw [hn.1, n_eq] <;> omega) ?_
    have lp : ∀ K i, i ≤ L.length → L.length - i < K → ∀ I', Sm omW I I' → oM L.length (goF L.length L w n u la c pre st i) I' → (∀ k, k < pre.length → I' m_order k = nI (pre.getD k 0)) → Ok (F_X12_goOrders_L65 (F_X12_goOrders N) (nI pre.length) u (nI la) (nI c) K (nI i) I' J) (fun q => q.2.2 = J ∧ Sm omW I q.2.1 ∧ oM L.length (goS L.length L w (n + 1) u la c pre st) q.2.1 ∧ ∀ k, k < pre.length → q.2.1 m_order k = nI (pre.getD k 0)) := by
      refine up ?_ ?_
      · intro K I' s1 s2 s3
        rw [F_X12_goOrders_L65]
        exact Ok.t (by rw [s1 _ _ rfl, hn.1, n_le] <;> omega) (Ok.mk ⟨rfl, s1, s2, s3⟩)
      · intro K i hi ih2 I' s1 s2 s3
        rw [F_X12_goOrders_L65]
        refine Ok.f (by rw [s1 _ _ rfl, hn.1, n_le] <;> omega) (Ok.cpe (t_hasI (by omega)) (Ok.lbv ?_))
        rw [goF_s] at ih2
        rw [show nI i + (1 : Int32) = nI (i + 1) from nI_1 i, show (1 : Int32) = nI 1 from rfl]
        cases hb : bi u i with
        | true =>
          refine Ok.f (by decide) (ih2 I' s1 ?_ s3)
          show oM L.length (if bi u i then _ else _) I'
          rw [hb]; exact s2
        | false =>
          have hmem := nat_getD_m hi
          have hlt := hl _ hmem
          have hch : I' m_turn i = nI (L.getD i 0) := by rw [s1 _ _ rfl]; exact hn.2 i hi
          refine Ok.t rfl (Ok.bxe (by omega) (by omega) (Ok.bxe (by omega) (by omega) (Ok.lbv (Ok.bxe (by omega) (by omega) (Ok.bxe (by omega) (by omega) ?_)))))
          rw [n_cl (by omega), n_cl (by omega), ui_c (show m_turn ≠ m_order by decide), hch]
          refine Ok.cpe (X12_changed (w := w) (by omega) (by omega) hw (by rw [ui_c (by decide), s1 _ _ rfl]; exact hwd)) ?_
          rw [nI_add, nI_add]
          have hdl := dfF_le w la (L.getD i 0)
          have hlen : (pre ++ [L.getD i 0]).length = pre.length + 1 := by simp
          have := ih N (u ||| oshl (nI 1) (nI i)) (L.getD i 0) (c + dfF w la (L.getD i 0)) (pre ++ [L.getD i 0]) (goF L.length L w n u la c pre st i) (ui I' m_order pre.length (nI (L.getD i 0))) J (by omega) (by rw [hlen]; omega) hlt (by omega) (by rw [ui_c (by decide), s1 _ _ rfl]; exact hwd) (fun k hk => ?_) ?_ ⟨by rw [ui_c (by decide), s1 _ _ rfl]; exact hn.1, fun k hk => by rw [ui_c (by decide), s1 _ _ rfl]; exact hn.2 k hk⟩
          · rw [hlen] at this
            refine Ok.call this (fun r I2 J2 _ hP => ?_)
            obtain ⟨p1, p2, p3, p4⟩ := hP
            simp only at p1 p2 p3 p4
            subst p1
            refine ih2 I2 (Sm.tr (by decide) (Sm.mi rfl s1) p2) ?_ (fun k hk => ?_)
            · show oM L.length (if bi u i then _ else _) I2
              rw [hb]; exact p3
            · rw [p4 k (by omega), getD_ap1, if_neg (by omega)]
          · rw [hlen] at hk
            rw [ui_s, getD_ap1]
            by_cases e : k = pre.length
            · rw [if_pos e, if_pos e]
            · rw [if_neg e, if_neg e]; exact s3 k (by omega)
          · rcases s2 with ⟨o1, o2, o3⟩ | ⟨o1, o2⟩
            · exact Or.inl ⟨o1, by rw [ui_c (by decide)]; exact o2, fun k hk => by rw [ui_c (by decide)]; exact o3 k hk⟩
            · exact Or.inr ⟨o1, by rw [ui_c (by decide)]; exact o2⟩
    exact lp bgf 0 (Nat.zero_le _) (by unfold bgf; omega) I Sm.rf ho ht
def orS (L : List Nat) (w : Nat) : Nat × List Nat := goS L.length L w L.length (nI 0) 0 0 [] (43, [])
def orL (L : List Nat) (w : Nat) : List Nat := (List.range L.length).map (fun k => (orS L w).2.getD k 0)
theorem orL_len (L : List Nat) (w : Nat) : (orL L w).length = L.length := by unfold orL; simp
theorem orL_at {L : List Nat} {w k : Nat} (h : k < L.length) : (orL L w).getD k 0 = (orS L w).2.getD k 0 := by
  unfold orL
  rw [List.getD_eq_getElem?_getD, List.getElem?_map, List.getElem?_range h]; rfl
theorem orS_lt {L : List Nat} {w : Nat} (hL : L.length ≤ 6) (hw : w ≤ 7) : (orS L w).1 ≤ 42 := by
  have := goS_lt (T := L.length) (by omega) (L := L) hw L.length (nI 0) 0 0 [] (43, []) (by
    have e : pcP L.length (fun i => !bi (nI 0) i) = L.length := by
      rw [pcP_all (fun i _ => by rw [bi_z]; rfl)]
    omega)
  unfold orS
  omega

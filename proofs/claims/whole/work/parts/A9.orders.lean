/-! LAYER 2: changes: the orders of the turns -/
def dfF : Nat → Nat → Nat → Nat
  | 0, _, _ => 0
  | n+1, a, b => (if a % 3 = b % 3 then 0 else 1) + dfF n (a / 3) (b / 3)
theorem dfF_le : ∀ n a b, dfF n a b ≤ n
  | 0, _, _ => Nat.le_refl _
  | n+1, a, b => by
    have := dfF_le n (a / 3) (b / 3)
    show (if a % 3 = b % 3 then 0 else 1) + dfF n (a / 3) (b / 3) ≤ n + 1
    split <;> omega
theorem dfF_0 : ∀ n, dfF n 0 0 = 0
  | 0 => rfl
  | n+1 => by
    show (if 0 % 3 = 0 % 3 then 0 else 1) + dfF n (0 / 3) (0 / 3) = 0
    rw [if_pos rfl, Nat.zero_div, dfF_0 n]
theorem dfF_w : ∀ w n a b, w ≤ n → a < 3 ^ w → b < 3 ^ w → dfF n a b = dfF w a b
  | 0, n, a, b, _, ha, hb => by
    rw [show a = 0 by simp at ha; omega, show b = 0 by simp at hb; omega, dfF_0]; rfl
  | w+1, 0, _, _, h, _, _ => by omega
  | w+1, n+1, a, b, h, ha, hb => by
    rw [Nat.pow_succ] at ha hb
    have := dfF_w w n (a / 3) (b / 3) (by omega) (by omega) (by omega)
    show (if a % 3 = b % 3 then 0 else 1) + dfF n (a / 3) (b / 3) = (if a % 3 = b % 3 then 0 else 1) + dfF w (a / 3) (b / 3)
    rw [this]
/-- the table's wires -/
def twX (w : Nat) (I : HI) : Prop := ∀ s, s < 3 ^ w → I x_table_high s = wr w 1 s ∧ I x_table_low s = wr w 2 s
theorem dfF_pc : ∀ w a b, dfF w a b = pcP w (fun k => !decide (a / 3 ^ (w - 1 - k) % 3 = b / 3 ^ (w - 1 - k) % 3))
  | 0, _, _ => rfl
  | w+1, a, b => by
    have h : pcP w (fun k => !decide (a / 3 ^ (w + 1 - 1 - k) % 3 = b / 3 ^ (w + 1 - 1 - k) % 3)) = dfF w (a / 3) (b / 3) := by
      rw [dfF_pc w (a / 3) (b / 3)]
      apply pcP_c
      intro k hk
      show (!decide (a / 3 ^ (w + 1 - 1 - k) % 3 = b / 3 ^ (w + 1 - 1 - k) % 3)) = (!decide (a / 3 / 3 ^ (w - 1 - k) % 3 = b / 3 / 3 ^ (w - 1 - k) % 3))
      have e : w + 1 - 1 - k = (w - 1 - k) + 1 := by omega
      rw [e, Nat.pow_succ, Nat.mul_comm, Nat.div_div_eq_div_mul, Nat.div_div_eq_div_mul]
    rw [pcP_s, h]
    have e : w + 1 - 1 - w = 0 := by omega
    show (if a % 3 = b % 3 then 0 else 1) + dfF w (a / 3) (b / 3) = _
    rw [e, Nat.pow_zero, Nat.div_one, Nat.div_one]
    by_cases c : a % 3 = b % 3
    · rw [if_pos c]; simp [c]
    · rw [if_neg c]; simp [c]; omega
theorem df_bit {x y : Nat} (hx : x < 3) (hy : y < 3) : ((decide (x = 1) ^^ decide (y = 1)) || (decide (x = 2) ^^ decide (y = 2))) = !decide (x = y) := by
  have hx : x = 0 ∨ x = 1 ∨ x = 2 := by omega
  have hy : y = 0 ∨ y = 1 ∨ y = 2 := by omega
  rcases hx with rfl | rfl | rfl <;> rcases hy with rfl | rfl | rfl <;> rfl
theorem X4_differing {a b w : Nat} (hw : w ≤ 7) (ha : a < 3 ^ w) (hb : b < 3 ^ w) {I : HI} {J : HJ} (ht : twX w I) : F_X4_differing (nI a) (nI b) I J = some (nI (dfF w a b)) := by
  have h3 := p3_le hw
  unfold F_X4_differing
  rw [n_bx (by omega) (by omega), n_bx (by omega) (by omega), n_bx (by omega) (by omega), n_bx (by omega) (by omega), n_cl (a := a) (by omega), n_cl (a := b) (by omega), (ht a ha).1, (ht b hb).1, (ht a ha).2, (ht b hb).2, bcNi]
  have e : pci ((wr w 1 a ^^^ wr w 1 b) ||| (wr w 2 a ^^^ wr w 2 b)) = dfF w a b := by
    have hk : ∀ k, bi ((wr w 1 a ^^^ wr w 1 b) ||| (wr w 2 a ^^^ wr w 2 b)) k = (decide (k < w) && !decide (a / 3 ^ (w - 1 - k) % 3 = b / 3 ^ (w - 1 - k) % 3)) := by
      intro k
      rw [bi_or, bi_xor, bi_xor, wr_b _ _ _ _ (by omega), wr_b _ _ _ _ (by omega), wr_b _ _ _ _ (by omega), wr_b _ _ _ _ (by omega), ← df_bit (Nat.mod_lt _ (by decide)) (Nat.mod_lt _ (by decide))]
      cases decide (k < w) <;> simp
    rw [dfF_pc]
    unfold pci
    obtain ⟨m, hm⟩ : ∃ m, 32 = w + m := ⟨32 - w, by omega⟩
    rw [hm, pcP_add, pcP_0 (n := m) (fun k _ => by rw [hk]; have : ¬ w + k < w := by omega
                                                   simp [this]), Nat.add_zero]
    apply pcP_c
    intro k hk'
    rw [hk]; simp [hk']
  show some (nI (pci _)) = _
  rw [e]
theorem X12_changed {a b w : Nat} (ha : a < 2147483648) (hb : b < 2147483648) (hw : w ≤ 7) {I : HI} {J : HJ} (e : I m_self f_Model_wide = nI w) : F_X12_changed (nI a) (nI b) I J = some (nI (dfF w a b)) := by
  unfold F_X12_changed
  have lp : ∀ d K a b acc, d ≤ w → d < K → a < 2147483648 → b < 2147483648 → F_X12_changed_L11 I J K (nI acc) (nI a) (nI b) (nI (w - d)) = some (nI (acc + dfF d a b)) := by
    intro d
    induction d with
    | zero =>
      intro K a b acc _ hK _ _
      obtain ⟨K, rfl⟩ : ∃ K', K = K' + 1 := ⟨K - 1, by omega⟩
      rw [F_X12_changed_L11, if_pos (by rw [e, n_le] <;> omega)]; rfl
    | succ d ih =>
      intro K a b acc hd hK ha hb
      obtain ⟨K, rfl⟩ : ∃ K', K = K' + 1 := ⟨K - 1, by omega⟩
      rw [F_X12_changed_L11, if_neg (by rw [e, n_le] <;> omega)]
      simp only [lb, lit32, nz3, n_rem ha, n_rem hb, n_div ha (show 3 < 2147483648 by decide), n_div hb (show 3 < 2147483648 by decide), nI_add]
      have e : w - (d + 1) + 1 = w - d := by omega
      show _ = some (nI (acc + ((if a % 3 = b % 3 then 0 else 1) + dfF d (a / 3) (b / 3))))
      by_cases c : a % 3 = b % 3
      · rw [if_pos (by rw [c]), if_pos c, e, ih K (a / 3) (b / 3) (acc + 0) (by omega) (by omega) (by omega) (by omega)]
        congr 2; omega
      · rw [if_neg (by rw [n_eq] <;> omega), if_neg c, e, ih K (a / 3) (b / 3) (acc + 1) (by omega) (by omega) (by omega) (by omega)]
        congr 2; omega
  have := lp w bgf a b 0 (by omega) (by unfold bgf; omega) ha hb
  rw [Nat.zero_add, Nat.sub_self] at this
  exact this
/-- all orders, in their order: the first of the least -/
def goS (T : Nat) (L : List Nat) (w : Nat) : Nat → Int32 → Nat → Nat → List Nat → Nat × List Nat → Nat × List Nat
  | 0, _, _, c, pre, st => if c < st.1 then (c, pre) else st
  | n+1, u, la, c, pre, st => (List.range T).foldl (fun st i => if bi u i then st else goS T L w n (u ||| oshl (nI 1) (nI i)) (L.getD i 0) (c + dfF w la (L.getD i 0)) (pre ++ [L.getD i 0]) st) st
abbrev goP (T : Nat) (L : List Nat) (w n : Nat) (u : Int32) (la c : Nat) (pre : List Nat) (st : Nat × List Nat) (i : Nat) : Nat × List Nat := if bi u i then st else goS T L w n (u ||| oshl (nI 1) (nI i)) (L.getD i 0) (c + dfF w la (L.getD i 0)) (pre ++ [L.getD i 0]) st
abbrev goF (T : Nat) (L : List Nat) (w n : Nat) (u : Int32) (la c : Nat) (pre : List Nat) (st : Nat × List Nat) (k : Nat) : Nat × List Nat := (List.range k).foldl (goP T L w n u la c pre) st
theorem goF_s {T : Nat} {L : List Nat} {w n : Nat} {u : Int32} {la c : Nat} {pre : List Nat} {st : Nat × List Nat} {k : Nat} : goF T L w n u la c pre st (k + 1) = goP T L w n u la c pre (goF T L w n u la c pre st k) k := by
  show (List.range (k + 1)).foldl _ _ = _
  rw [List.range_succ, List.foldl_append]; rfl
theorem goS_pr {T : Nat} {L : List Nat} {w : Nat} : ∀ (n : Nat) (u : Int32) (la c : Nat) (pre : List Nat) (st : Nat × List Nat), st.1 ≤ c → goS T L w n u la c pre st = st
  | 0, u, la, c, pre, st, h => by
    show (if c < st.1 then (c, pre) else st) = st
    rw [if_neg (by omega)]
  | n+1, u, la, c, pre, st, h => by
    show goF T L w n u la c pre st T = st
    have : ∀ k, goF T L w n u la c pre st k = st := by
      intro k
      induction k with
      | zero => rfl
      | succ k ih =>
        rw [goF_s, ih]
        show (if bi u k then st else _) = st
        split
        · rfl
        · exact goS_pr n _ _ _ _ st (by omega)
    exact this T
theorem goS_dn {T : Nat} {L : List Nat} {w : Nat} : ∀ (n : Nat) (u : Int32) (la c : Nat) (pre : List Nat) (st : Nat × List Nat), (goS T L w n u la c pre st).1 ≤ st.1
  | 0, u, la, c, pre, st => by
    show (if c < st.1 then (c, pre) else st).1 ≤ st.1
    split
    · show c ≤ st.1; omega
    · exact Nat.le_refl _
  | n+1, u, la, c, pre, st => by
    show (goF T L w n u la c pre st T).1 ≤ st.1
    have : ∀ k, (goF T L w n u la c pre st k).1 ≤ st.1 := by
      intro k
      induction k with
      | zero => exact Nat.le_refl _
      | succ k ih =>
        rw [goF_s]
        show (if bi u k then _ else _ : Nat × List Nat).1 ≤ st.1
        split
        · exact ih
        · exact Nat.le_trans (goS_dn n _ _ _ _ _) ih
    exact this T
theorem goS_lt {T : Nat} (hT : T ≤ 31) {L : List Nat} {w : Nat} (hw : w ≤ 7) : ∀ (n : Nat) (u : Int32) (la c : Nat) (pre : List Nat) (st : Nat × List Nat), n ≤ pcP T (fun i => !bi u i) → (goS T L w n u la c pre st).1 ≤ c + 7 * n
  | 0, u, la, c, pre, st, _ => by
    show (if c < st.1 then (c, pre) else st).1 ≤ c + 7 * 0
    split
    · exact Nat.le_refl _
    · show st.1 ≤ c + 7 * 0; omega
  | n+1, u, la, c, pre, st, h => by
    obtain ⟨i, i1, i2⟩ := pcP_ex (n := T) (p := fun i => !bi u i) (by omega)
    have hd := pcP_del (p := fun i => !bi u i) i1 i2
    have hle := dfF_le w la (L.getD i 0)
    have step : ∀ st, (goP T L w n u la c pre st i).1 ≤ c + 7 * (n + 1) := by
      intro st
      have i2' : bi u i = false := by simpa using i2
      show (if bi u i then st else _ : Nat × List Nat).1 ≤ _
      rw [i2', if_neg (by decide)]
      refine Nat.le_trans (goS_lt hT hw n _ _ _ _ _ ?_) (by omega)
      have e : (fun j => !bi (u ||| oshl (nI 1) (nI i)) j) = (fun j => (!bi u j) && !decide (j = i)) := by
        funext j
        rw [bi_or, show bi (oshl (nI 1) (nI i)) j = decide (j = i) from bi_one (by omega), Bool.not_or]
      rw [e]; omega
    have dn : ∀ k, i < k → (goF T L w n u la c pre st k).1 ≤ c + 7 * (n + 1) := by
      intro k
      induction k with
      | zero => intro h; omega
      | succ k ih =>
        intro hk
        rw [goF_s]
        by_cases e : k = i
        · rw [e]; exact step _
        · show (if bi u k then _ else _ : Nat × List Nat).1 ≤ _
          split
          · exact ih (by omega)
          · exact Nat.le_trans (goS_dn n _ _ _ _ _) (ih (by omega))
    exact dn T i1
def oX (T : Nat) (st : Nat × List Nat) (I : HI) : Prop := I x_parting f_Parting_fewestChanges = nI st.1 ∧ st.1 ≤ 43 ∧ (st.1 < 43 → ∀ k, k < T → I x_parting_order k = nI (st.2.getD k 0))
abbrev oxW : Pl := [(x_parting_tried, none), (x_parting_order, none), (x_parting, some f_Parting_fewestChanges)]
theorem X4_tryOrder {L : List Nat} {w : Nat} (hL : L.length ≤ 6) (hw : w ≤ 7) (hl : ∀ e, e ∈ L → e < 3 ^ w) : ∀ (n N : Nat) (u : Int32) (la c : Nat) (pre : List Nat) (st : Nat × List Nat) (I : HI) (J : HJ), n < N → pre.length + n = L.length → la < 3 ^ w → c + 7 * n ≤ 42 → (∀ k, k < pre.length → I x_parting_tried k = nI (pre.getD k 0)) → oX L.length st I → tnX L I → twX w I → Ok (F_X4_tryOrder N (nI pre.length) u (nI la) (nI c) I J) (fun q => q.2.2 = J ∧ Sm oxW I q.2.1 ∧ oX L.length (goS L.length L w n u la c pre st) q.2.1 ∧ ∀ k, k < pre.length → q.2.1 x_parting_tried k = nI (pre.getD k 0)) := by
  have h3 := p3_le hw
  intro n
  induction n with
  | zero =>
    intro N u la c pre st I J hN hp hla hc ht ho hn htw
    obtain ⟨N, rfl⟩ : ∃ N', N = N' + 1 := ⟨N - 1, by omega⟩
    have ho1 := ho.2.1
    rw [F_X4_tryOrder]
    unfold F_X4_tryOrder_B
    rw [ho.1]
    by_cases c1 : st.1 ≤ c
    · refine Ok.t (by rw [n_le] <;> omega) (Ok.mk ⟨rfl, Sm.rf, ?_, ht⟩)
      rw [goS_pr _ _ _ _ _ _ c1]; exact ho
    · refine Ok.f (by rw [n_le] <;> omega) (Ok.t (show nI pre.length ≤ (6 : Int32) from (by rw [n_le (by omega) (by omega)]; omega : nI pre.length ≤ nI 6)) ?_)
      refine Ok.t (by rw [hn.1, n_eq] <;> omega) (Ok.lbv ?_)
      rw [ui_j (show f_Parting_turns ≠ f_Parting_fewestChanges by decide), hn.1]
      refine Ok.f ?_ (Ok.lbv (Ok.mk ⟨rfl, Sm.mf (fun _ => rfl) (Sm.mi rfl Sm.rf), ?_, fun k hk => ?_⟩))
      · rw [n_cl (by omega)]
        have : ¬ nI L.length < (0 : Int32) := (by rw [n_lt (by omega) (by omega)]; omega : ¬ nI L.length < nI 0)
        have h0 : (0 : Int32).toNatClampNeg = 0 := rfl
        rw [h0]
        rintro (h | h | h | h | h)
        · exact absurd h (by decide)
        · exact absurd h (by decide)
        · exact this h
        · omega
        · omega
      · have e : goS L.length L w 0 u la c pre st = (c, pre) := if_pos (by omega)
        rw [e]
        refine ⟨by dsimp only; rw [uf_c (by decide), ui_r], by dsimp only; omega, fun _ k hk => ?_⟩
        dsimp only
        rw [uf_r, n_cl (by omega)]
        have h0 : (0 : Int32).toNatClampNeg = 0 := rfl
        rw [h0, cpy_at hk, ui_c (by decide)]
        exact ht k (by omega)
      · dsimp only
        rw [uf_c (by decide), ui_c (by decide)]; exact ht k hk
  | succ n ih =>
    intro N u la c pre st I J hN hp hla hc ht ho hn htw
    obtain ⟨N, rfl⟩ : ∃ N', N = N' + 1 := ⟨N - 1, by omega⟩
    have ho1 := ho.2.1
    rw [F_X4_tryOrder]
    unfold F_X4_tryOrder_B
    rw [ho.1]
    by_cases c1 : st.1 ≤ c
    · refine Ok.t (by rw [n_le] <;> omega) (Ok.mk ⟨rfl, Sm.rf, ?_, ht⟩)
      rw [goS_pr _ _ _ _ _ _ c1]; exact ho
    · refine Ok.f (by rw [n_le] <;> omega) (Ok.t (show nI pre.length ≤ (6 : Int32) from (by rw [n_le (by omega) (by omega)]; omega : nI pre.length ≤ nI 6)) ?_)
      refine Ok.f (by rw [hn.1, n_eq] <;> omega) ?_
      have lp : ∀ K i, i ≤ L.length → L.length - i < K → ∀ I', Sm oxW I I' → oX L.length (goF L.length L w n u la c pre st i) I' → (∀ k, k < pre.length → I' x_parting_tried k = nI (pre.getD k 0)) → Ok (F_X4_tryOrder_L51 (F_X4_tryOrder N) (nI pre.length) u (nI la) (nI c) K (nI i) I' J) (fun q => q.2.2 = J ∧ Sm oxW I q.2.1 ∧ oX L.length (goS L.length L w (n + 1) u la c pre st) q.2.1 ∧ ∀ k, k < pre.length → q.2.1 x_parting_tried k = nI (pre.getD k 0)) := by
        refine up ?_ ?_
        · intro K I' s1 s2 s3
          rw [F_X4_tryOrder_L51]
          exact Ok.t (by rw [s1 _ _ rfl, hn.1, n_le] <;> omega) (Ok.mk ⟨rfl, s1, s2, s3⟩)
        · intro K i hi ih2 I' s1 s2 s3
          rw [F_X4_tryOrder_L51]
          refine Ok.f (by rw [s1 _ _ rfl, hn.1, n_le] <;> omega) (Ok.lbv ?_)
          rw [goF_s] at ih2
          rw [show nI i + (1 : Int32) = nI (i + 1) from nI_1 i, show (1 : Int32) = nI 1 from rfl, t_iu (by omega)]
          cases hb : bi u i with
          | true =>
            refine Ok.f (by decide) (ih2 I' s1 ?_ s3)
            show oX L.length (if bi u i then _ else _) I'
            rw [hb]; exact s2
          | false =>
            have hmem := nat_getD_m hi
            have hlt := hl _ hmem
            have hch : I' x_parting_chosen i = nI (L.getD i 0) := by rw [s1 _ _ rfl]; exact hn.2 i hi
            refine Ok.t rfl (Ok.bxe (by omega) (by omega) (Ok.bxe (by omega) (by omega) (Ok.lbv (Ok.bxe (by omega) (by omega) ?_))))
            rw [n_cl (by omega), n_cl (by omega), ui_c (show x_parting_chosen ≠ x_parting_tried by decide), hch]
            have htw7 : twX w (ui I' x_parting_tried pre.length (nI (L.getD i 0))) := fun s hs => by rw [ui_c (by decide), ui_c (by decide), s1 x_table_high _ rfl, s1 x_table_low _ rfl]; exact htw s hs
            refine Ok.cpe (X4_differing hw hla hlt htw7) (Ok.bxe (by omega) (by omega) ?_)
            rw [nI_add, nI_add]
            have hdl := dfF_le w la (L.getD i 0)
            have hlen : (pre ++ [L.getD i 0]).length = pre.length + 1 := by simp
            have := ih N (u ||| oshl (nI 1) (nI i)) (L.getD i 0) (c + dfF w la (L.getD i 0)) (pre ++ [L.getD i 0]) (goF L.length L w n u la c pre st i) (ui I' x_parting_tried pre.length (nI (L.getD i 0))) J (by omega) (by rw [hlen]; omega) hlt (by omega) (fun k hk => ?_) ⟨by rw [ui_c (by decide)]; exact s2.1, s2.2.1, fun h k hk => by rw [ui_c (by decide)]; exact s2.2.2 h k hk⟩ ⟨by rw [ui_c (by decide), s1 _ _ rfl]; exact hn.1, fun k hk => by rw [ui_c (by decide), s1 _ _ rfl]; exact hn.2 k hk⟩ htw7
            · rw [hlen] at this
              refine Ok.call this (fun r I2 J2 _ hP => ?_)
              obtain ⟨p1, p2, p3, p4⟩ := hP
              simp only at p1 p2 p3 p4
              subst p1
              refine ih2 I2 (Sm.tr (by decide) (Sm.mi rfl s1) p2) ?_ (fun k hk => ?_)
              · show oX L.length (if bi u i then _ else _) I2
                rw [hb]; exact p3
              · rw [p4 k (by omega), getD_ap1, if_neg (by omega)]
            · rw [hlen] at hk
              rw [ui_s, getD_ap1]
              by_cases e : k = pre.length
              · rw [if_pos e, if_pos e]
              · rw [if_neg e, if_neg e]; exact s3 k (by omega)
      exact lp bgf 0 (Nat.zero_le _) (by unfold bgf; omega) I Sm.rf ho ht

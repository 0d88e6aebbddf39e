/-! LAYER 2: fits, swap -/
def okPr (L : Nat) (a b : Int32) : Prop := ∃ p q, p < L ∧ q < L ∧ p ≠ q ∧ a = nI p ∧ b = nI q
theorem X0_hasPair {L : Nat} {a b : Int32} {I : HI} {J : HJ} (hL : L ≤ 60) (e : I x_board f_Board_lamps = nI L) : (okPr L a b ∧ F_X0_hasPair a b I J = some (nI 1)) ∨ (¬ okPr L a b ∧ F_X0_hasPair a b I J = some (nI 0)) := by
  unfold F_X0_hasPair
  rcases i_case a L (by omega) with ⟨p, hp, rfl⟩ | ⟨hn, nn⟩
  · rw [(X0_hasLamp hL e).1 ⟨p, hp, rfl⟩]
    rcases i_case b L (by omega) with ⟨q, hq, rfl⟩ | ⟨hn, nn⟩
    · rw [(X0_hasLamp hL e).1 ⟨q, hq, rfl⟩]
      by_cases c : p = q
      · right
        refine ⟨fun ⟨p', q', _, _, h3, h4, h5⟩ => ?_, ?_⟩
        · subst c
          exact h3 ((n_eq (by omega) (by omega)).mp (h4.symm.trans h5))
        · subst c; simp [cp]; rfl
      · left
        refine ⟨⟨p, q, hp, hq, c, rfl, rfl⟩, ?_⟩
        have : ¬ nI p = nI q := fun h => c ((n_eq (by omega) (by omega)).mp h)
        simp [cp, this]; rfl
    · right
      rw [(X0_hasLamp hL e).2 hn]
      exact ⟨fun ⟨p', q', _, h2, _, _, h5⟩ => nn q' h2 h5, by simp [cp]; rfl⟩
  · right
    rw [(X0_hasLamp hL e).2 hn]
    exact ⟨fun ⟨p', q', h1, _, _, h4, _⟩ => nn p' h1 h4, by simp [cp]; rfl⟩
theorem mPr {α : Type} {L : Nat} {a b : Int32} {I : HI} {J : HJ} {N G : Option α} (hL : L ≤ 60) (e : I m_self f_Model_lamps = nI L) : (okPr L a b → (cp (F_X12_isLamp a I J) fun r3 => if r3 = 0 then N else cp (F_X12_isLamp b I J) fun r4 => if r4 = 0 then N else if a = b then N else G) = G) ∧ (¬ okPr L a b → (cp (F_X12_isLamp a I J) fun r3 => if r3 = 0 then N else cp (F_X12_isLamp b I J) fun r4 => if r4 = 0 then N else if a = b then N else G) = N) := by
  constructor
  · rintro ⟨p, q, hp, hq, c, rfl, rfl⟩
    rw [(X12_isLamp hL e).1 ⟨p, hp, rfl⟩, (X12_isLamp hL e).1 ⟨q, hq, rfl⟩]
    have : ¬ nI p = nI q := fun h => c ((n_eq (by omega) (by omega)).mp h)
    have n1 : ¬ nI 1 = (0 : Int32) := by decide
    simp [cp, this, n1]
  · intro nk
    rcases i_case a L (by omega) with ⟨p, hp, rfl⟩ | ⟨hn, nn⟩
    · rw [(X12_isLamp hL e).1 ⟨p, hp, rfl⟩]
      rcases i_case b L (by omega) with ⟨q, hq, rfl⟩ | ⟨hn, nn⟩
      · rw [(X12_isLamp hL e).1 ⟨q, hq, rfl⟩]
        by_cases c : p = q
        · subst c; simp [cp]
        · exact absurd ⟨p, q, hp, hq, c, rfl, rfl⟩ nk
      · rw [(X12_isLamp hL e).2 hn]
        have n0 : nI 0 = (0 : Int32) := rfl
        simp [cp, n0]
    · rw [(X12_isLamp hL e).2 hn]
      have n0 : nI 0 = (0 : Int32) := rfl
      simp [cp, n0]
def fiP (B : Bd) (p q s : Nat) : Bool := clS B s && bt (gS B 0 s) p && bt (gS B 0 s) q
theorem two_in {x : Int64} {p q : Nat} (hp : p < 60) (hq : q < 60) : (olshl (lN 1) (nI p) ||| olshl (lN 1) (nI q)) &&& (x ^^^ (-lN 1)) = lN 0 ↔ bt x p = true ∧ bt x q = true := by
  constructor
  · intro h
    have g : ∀ k, k < 64 → bt ((olshl (lN 1) (nI p) ||| olshl (lN 1) (nI q)) &&& (x ^^^ (-lN 1))) k = false := fun k hk => by rw [h, bt_z]
    refine ⟨?_, ?_⟩
    · have := g p (by omega)
      rw [bt_and, bt_or, show (-lN 1 : Int64) = -1 from rfl, bt_not (by omega), t_one (by omega), t_one (by omega)] at this
      simpa using this
    · have := g q (by omega)
      rw [bt_and, bt_or, show (-lN 1 : Int64) = -1 from rfl, bt_not (by omega), t_one (by omega), t_one (by omega)] at this
      simpa using this
  · rintro ⟨h1, h2⟩
    apply bt_ext
    intro k hk
    rw [bt_and, bt_or, show (-lN 1 : Int64) = -1 from rfl, bt_not (by omega), t_one (by omega), t_one (by omega), bt_z]
    by_cases c1 : k = p
    · subst c1; simp [h1]
    · by_cases c2 : k = q
      · subst c2; simp [h2]
      · simp [c1, c2]

theorem Ok.eqe {α : Type} {x y : Option α} {Q : α → Prop} (h : x = y) (k : Ok y Q) : Ok x Q := h ▸ k

theorem OP19 (n : Nat) (b : Bool) (I : HI) (J : HJ) (a1 a2 a3 a4 : Int32) (h : Iv (n + 1) b I J) : Op19 (Iv n) b I J a1 a2 a3 a4 := by
  obtain ⟨B, nb, h⟩ := h
  have hB := h.1
  have h60 := hB.2.2.1
  have hX := h.2.1
  have hM0 := h.2.2.1
  have hTF := h.2.2.2.2.2.2.2.2.2
  have hN := h.2.2.2.2.1

  rcases X0_hasPair (J := J) (a := a1) (b := a2) h60 hX.2.1 with ⟨ok, e⟩ | ⟨nk, e⟩
  · obtain ⟨p, q, hpL, hqL, hpq, rfl, rfl⟩ := id ok
    have hp60 : p < 60 := by omega
    have hq60 : q < 60 := by omega
    by_cases hW : bW B ≤ 7
    · have hp := p3_le hW
      skip
      refine srch h (fr_X11_fits (nI p) (nI q) I J) (fun I1 J1 => fr_X12_fits (nI p) (nI q) I1 J1) (by decide) (if (fsS (fiP B p q) (3 ^ bW B)).isSome then 1 else 0) (none) ?_ ?_
      · unfold F_X11_fits
        refine Ok.cpe e (Ok.f (by decide) (openX hB hW hX hTF.1 hTF.2.1 (fun I3 J4 hX3 hR s1 s2 => ?_)))
        refine Ok.lbv ?_
        have hl : ∀ K k, k ≤ 3 ^ bW B → 3 ^ bW B - k < K → (∀ j, j < k → fiP B p q j = false) → F_X11_fits_L35 (olshl (1 : Int64) (nI p) ||| olshl (1 : Int64) (nI q)) I3 J4 K (nI k) = some (if (fsS (fiP B p q) (3 ^ bW B)).isSome then 1 else 0, I3, J4) := by
          refine up ?_ ?_
          · intro K hd
            rw [F_X11_fits_L35, if_pos (by rw [hR.1.2.1, n_le] <;> omega), fsS_none.mpr hd]; rfl
          · intro K k hk ih hd
            rw [F_X11_fits_L35, if_neg (by rw [hR.1.2.1, n_le] <;> omega)]
            simp (disch := omega) only [lb, lit32, litL, cm0, n_bx, n_cl, (hR.1.2.2.1 k hk).1, (hR.1.2.2.1 k hk).2, b1_0, nI_1, nI_add, two_in hp60 hq60]
            have ih' : fiP B p q k = false → F_X11_fits_L35 (olshl (1 : Int64) (nI p) ||| olshl (1 : Int64) (nI q)) I3 J4 K (nI (k + 1)) = some (if (fsS (fiP B p q) (3 ^ bW B)).isSome then 1 else 0, I3, J4) := fun hf => ih (fun j hj => by
              by_cases cj : j = k
              · rw [cj]; exact hf
              · exact hd j (by omega))
            cases hc : clS B k with
            | false => rw [if_pos rfl]; exact ih' (by unfold fiP; rw [hc]; rfl)
            | true =>
              rw [if_neg (by simp)]
              by_cases d : bt (gS B 0 k) p = true ∧ bt (gS B 0 k) q = true
              · rw [if_pos d, fsS_some.mpr ⟨hk, by unfold fiP; rw [hc, d.1, d.2]; rfl, hd⟩]; rfl
              · rw [if_neg d]
                exact ih' (by
                  cases hf : fiP B p q k with
                  | false => rfl
                  | true => unfold fiP at hf; simp only [Bool.and_eq_true] at hf; exact absurd ⟨hf.1.2, hf.2⟩ d)
        exact ⟨_, hl bgf 0 (Nat.zero_le _) (by unfold bgf; omega) (fun j hj => by omega), rfl, hR.tab, hR.2.2, toX_o s1 s2 (by decide) (by decide)⟩
      · intro I1 J1 hM hMo u1 u2
        have sT := th_s I1 0
        have hM2 : MB B (ui I1 m_self f_Model_thrown 0) := hM.keep (Ag.of sT (by decide))
        unfold F_X12_fits
        refine Ok.lbv (Ok.eqe ((mPr h60 hM2.2.1).1 ok) (Ok.cpe ((X12_can hB _ _ hM2).1 hW) (Ok.f (by decide) (allM hB hW hM2 (hMo.keep (Ag.of sT (by decide))) (fun I3 J4 hM3 hMo3 hfa hst t1 t2 => ?_)))))
        have hl : ∀ K k, k ≤ 3 ^ bW B → 3 ^ bW B - k < K → (∀ j, j < k → fiP B p q j = false) → F_X12_fits_L44 (nI p) (nI q) I3 J4 K (nI k) = some (if (fsS (fiP B p q) (3 ^ bW B)).isSome then 1 else 0, I3, J4) := by
          refine up ?_ ?_
          · intro K hd
            rw [F_X12_fits_L44, hst]
            simp only [cp, Option.bind_some]
            rw [if_pos (by rw [n_le] <;> omega), fsS_none.mpr hd]; rfl
          · intro K k hk ih hd
            rw [F_X12_fits_L44, hst]
            simp only [cp, Option.bind_some]
            rw [if_neg (by rw [n_le] <;> omega)]
            have ih' : fiP B p q k = false → F_X12_fits_L44 (nI p) (nI q) I3 J4 K (nI (k + 1)) = some (if (fsS (fiP B p q) (3 ^ bW B)).isSome then 1 else 0, I3, J4) := fun hf => ih (fun j hj => by
              by_cases cj : j = k
              · rw [cj]; exact hf
              · exact hd j (by omega))
            simp (disch := omega) only [lb, lit32, litL, n_bx, n_cl, (hfa k hk).1, (hfa k hk).2, t_has, Option.bind_some, b1_0, nI_1, nI_add]
            cases hc : clS B k with
            | false => rw [if_neg (by simp)]; exact ih' (by unfold fiP; rw [hc]; rfl)
            | true =>
              rw [if_pos (by simp)]
              cases h1 : bt (gS B 0 k) p with
              | false => rw [if_pos (by rfl)]; exact ih' (by unfold fiP; rw [h1]; simp)
              | true =>
                rw [if_neg (by decide)]
                cases h2 : bt (gS B 0 k) q with
                | false => rw [if_pos (by rfl)]; exact ih' (by unfold fiP; rw [h2]; simp)
                | true =>
                  rw [if_neg (by decide), fsS_some.mpr ⟨hk, by unfold fiP; rw [hc, h1, h2]; rfl, hd⟩]; rfl
        exact ⟨_, hl bgf 0 (Nat.zero_le _) (by unfold bgf; omega) (fun j hj => by omega), rfl, hMo3, toM_2 sT t1 t2 (by decide) (by decide) (by decide)⟩
    · refine srch h (fr_X11_fits (nI p) (nI q) I J) (fun I1 J1 => fr_X12_fits (nI p) (nI q) I1 J1) (by decide) (-3) none ?_ ?_
      · unfold F_X11_fits
        exact Ok.cpe e (Ok.f (by decide) (noX hB hW hX (Ok.mk ⟨rfl, hTF.1, hTF.2.1, rfl, rfl⟩)))
      · intro I1 J1 hM hMo u1 u2
        have sT := th_s I1 0
        have hM2 : MB B (ui I1 m_self f_Model_thrown 0) := hM.keep (Ag.of sT (by decide))
        unfold F_X12_fits
        exact Ok.lbv (Ok.eqe ((mPr h60 hM2.2.1).1 ok) (Ok.cpe ((X12_can hB _ _ hM2).2 hW) (Ok.t (by decide) (Ok.mk ⟨rfl, hMo.keep (Ag.of sT (by decide)), toM_o sT (Sm.rf (w := [])) (by decide) (by decide)⟩))))
  · refine ⟨-1, I, J, ui I m_self f_Model_thrown 0, J, ?_, ?_, IV_th h (th_s I 0) Sm.rf⟩
    · unfold F_X11_fits
      exact cp0 (e)
    · unfold F_X12_fits
      exact (lb_e _ _).trans ((mPr h60 (by rw [ui_j (by decide)]; exact hM0.2.1)).2 nk)

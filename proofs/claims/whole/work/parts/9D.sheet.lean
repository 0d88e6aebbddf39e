/-! LAYER 2: sheet -/
def shE (k x : Int32) : Int32 := if k = 0 then oi2b x else if k = 1 then oi2s x else x
def shV (k a2 a3 a4 : Int32) (j : Nat) : Int32 := if k = 3 ∨ a2 ≤ nI j then 1 else omax 1 (omin 9 (shE k (a3 + nI j * a4)))
def shN (k a2 a3 a4 : Int32) (j : Nat) : Nat := (shV k a2 a3 a4 j).toInt.toNat
theorem clamp (y : Int32) : ∃ v, 1 ≤ v ∧ v ≤ 9 ∧ omax 1 (omin 9 y) = nI v := by
  have h1 : (1 : Int32).toInt = 1 := rfl
  have h9 : (9 : Int32).toInt = 9 := rfl
  have hm : (omin 9 y).toInt ≤ 9 := by
    unfold omin
    split
    · rename_i c; rw [i_lt] at c; omega
    · rw [h9]; exact Int.le_refl _
  have hM : (omax 1 (omin 9 y)).toInt ≤ 9 ∧ 1 ≤ (omax 1 (omin 9 y)).toInt := by
    generalize omin 9 y = z at hm ⊢
    unfold omax
    split
    · rename_i c; rw [i_lt] at c; omega
    · rename_i c; rw [h1]; omega
  obtain ⟨n, e1, e2, _⟩ := i_of (x := omax 1 (omin 9 y)) (by omega)
  exact ⟨n, by omega, by omega, e1⟩
theorem shN_p (k a2 a3 a4 : Int32) (j : Nat) : shV k a2 a3 a4 j = nI (shN k a2 a3 a4 j) ∧ 1 ≤ shN k a2 a3 a4 j ∧ shN k a2 a3 a4 j ≤ 9 := by
  have h : ∃ v, 1 ≤ v ∧ v ≤ 9 ∧ shV k a2 a3 a4 j = nI v := by
    unfold shV
    split
    · exact ⟨1, by omega, by omega, rfl⟩
    · exact clamp _
  obtain ⟨v, h1, h2, h3⟩ := h
  have : shN k a2 a3 a4 j = v := by unfold shN; rw [h3, n_int (by omega)]; omega
  rw [this]; exact ⟨h3, h1, h2⟩
def shB (B : Bd) (f : Nat → Nat) : Bd := fun a j => if a = 4 then f j else B a j
theorem shB_v (B : Bd) (f : Nat → Nat) (l : Nat) : bV (shB B f) l = f l := if_pos rfl
def rdXB0 : Pl := [(x_board, none), (x_board_ohms, none), (x_board_from, none), (x_board_goal, none)]
def rdMB0 : Pl := [(m_self, some f_Model_wide), (m_self, some f_Model_lamps), (m_sets, none), (m_ohm, none), (m_lampFrom, none), (m_lampTo, none)]
theorem XB.sh {B : Bd} {f : Nat → Nat} {I I' : HI} {J J' : HJ} (h : XB B I J) (a : Ag rdXB0 I I') (b : Ag rdXBj J J') (hv : ∀ l, l < bL B → I' x_board_volts l = nI (f l)) : XB (shB B f) I' J' := by
  obtain ⟨h1, h2, h3, h4, h5, h6, h7, h8⟩ := h
  refine ⟨by rw [a _ _ rfl]; exact h1, by rw [a _ _ rfl]; exact h2, by rw [a _ _ rfl]; exact h3, by rw [a _ _ rfl]; exact h4, by rw [a _ _ rfl]; exact h5, fun w hw => by rw [a _ _ rfl]; exact h6 w hw, fun l hl => ?_, fun w hw l => ?_⟩
  · rw [a x_board_from _ rfl, a x_board_goal _ rfl, shB_v]; exact ⟨(h7 l hl).1, (h7 l hl).2.1, hv l hl⟩
  · rw [b x_board_out _ rfl, b x_board_into _ rfl]; exact h8 w hw l
theorem MB.sh {B : Bd} {f : Nat → Nat} {I I' : HI} (h : MB B I) (a : Ag rdMB0 I I') (hv : ∀ l, l < bL B → I' m_volts l = nI (f l)) : MB (shB B f) I' := by
  obtain ⟨h1, h2, h3, h4, h5, h6, h7⟩ := h
  refine ⟨by rw [a _ _ rfl]; exact h1, by rw [a _ _ rfl]; exact h2, by rw [a _ _ rfl]; exact h3, by rw [a _ _ rfl]; exact h4, by rw [a _ _ rfl]; exact h5, fun w hw => by rw [a _ _ rfl]; exact h6 w hw, fun l hl => ?_⟩
  rw [a m_lampFrom _ rfl, a m_lampTo _ rfl, shB_v]; exact ⟨(h7 l hl).1, (h7 l hl).2.1, hv l hl⟩
def shS (k a2 a3 a4 : Int32) (i : Nat) : Int32 := (List.range i).foldl (fun x j => x + shV k a2 a3 a4 j) 0
theorem shS_s (k a2 a3 a4 : Int32) (i : Nat) : shS k a2 a3 a4 (i + 1) = shS k a2 a3 a4 i + shV k a2 a3 a4 i := by unfold shS; rw [List.range_succ, List.foldl_append]; rfl
theorem X11_sheet_L {k a2 a3 a4 : Int32} {L : Nat} (hL : L ≤ 60) {J : HJ} {kx : Int32 → HI → Option (Int32 × HI × HJ)} {Q : Int32 × HI × HJ → Prop} (I0 : HI) (l5 : Int32) (h5 : ∀ j, j < 60 → (l5 ≤ nI j ↔ k = 3 ∨ a2 ≤ nI j)) (hx : ∀ I, Sm [(x_board_volts, none)] I0 I → (∀ j, j < L → I x_board_volts j = shV k a2 a3 a4 j) → Ok (kx (shS k a2 a3 a4 L) I) Q) : ∀ K i, i ≤ L → L - i < K → ∀ I, I x_board f_Board_lamps = nI L → Sm [(x_board_volts, none)] I0 I → (∀ j, j < i → I x_board_volts j = shV k a2 a3 a4 j) → Ok (F_X11_sheet_L47 k a3 a4 l5 J kx K (shS k a2 a3 a4 i) (nI i) I) Q := by
  refine up ?_ ?_
  · intro K I h0 hs hv
    rw [F_X11_sheet_L47]
    exact Ok.t (by rw [h0, n_le] <;> omega) (hx I hs hv)
  · intro K i hi ih I h0 hs hv
    rw [F_X11_sheet_L47]
    refine Ok.f (by rw [h0, n_le] <;> omega) (Ok.lbv ?_)
    have body : ∀ y, omax 1 (omin 9 y) = shV k a2 a3 a4 i → Ok (bx (nI i) 64 <| lb (ui I x_board_volts (Int32.toNatClampNeg (nI i)) (omax (1 : Int32) (omin (9 : Int32) y))) fun I9 => bx (nI i) 64 <| lb ((shS k a2 a3 a4 i + (I9 x_board_volts (Int32.toNatClampNeg (nI i))))) fun x10 => F_X11_sheet_L47 k a3 a4 l5 J kx K x10 (nI i + 1) I9) Q := by
      intro y hy
      refine Ok.bxe (by omega) (by omega) (Ok.lbv (Ok.bxe (by omega) (by omega) (Ok.lbv ?_)))
      rw [n_cl (by omega), hy, ui_r, nI_1, ← shS_s]
      refine ih _ (by rw [ui_c (by decide)]; exact h0) (Sm.mi rfl hs) (fun j hj => ?_)
      rw [ui_s]
      by_cases c : j = i
      · rw [if_pos c, c]
      · rw [if_neg c]; exact hv j (by omega)
    by_cases c : k = 3 ∨ a2 ≤ nI i
    · refine Ok.t ((h5 i (by omega)).mpr c) (body 1 ?_)
      unfold shV; rw [if_pos c]; decide
    · refine Ok.f (fun hc => c ((h5 i (by omega)).mp hc)) ?_
      refine Ok.cpe (show F_X11_entryAs k (a3 + nI i * a4) = some (shE k (a3 + nI i * a4)) from ?_) (body _ ?_)
      · unfold F_X11_entryAs shE
        split
        · rfl
        · split <;> rfl
      · unfold shV; rw [if_neg c]
theorem X12_sheet_L {k a2 a3 a4 : Int32} {L : Nat} (hL : L ≤ 60) {J : HJ} {kx : Int32 → HI → Option (Int32 × HI × HJ)} {Q : Int32 × HI × HJ → Prop} (I0 : HI) (hx : ∀ I, Sm [(m_volts, none)] I0 I → (∀ j, j < L → I m_volts j = shV k a2 a3 a4 j) → Ok (kx (shS k a2 a3 a4 L) I) Q) : ∀ K i, i ≤ L → L - i < K → ∀ I, I m_self f_Model_lamps = nI L → Sm [(m_volts, none)] I0 I → (∀ j, j < i → I m_volts j = shV k a2 a3 a4 j) → Ok (F_X12_sheet_L46 k a2 a4 J kx K (shS k a2 a3 a4 i) (a3 + nI i * a4) (nI i) I) Q := by
  refine up ?_ ?_
  · intro K I h0 hs hv
    rw [F_X12_sheet_L46]
    exact Ok.t (by rw [h0, n_le] <;> omega) (hx I hs hv)
  · intro K i hi ih I h0 hs hv
    rw [F_X12_sheet_L46]
    refine Ok.f (by rw [h0, n_le] <;> omega) (Ok.lbv ?_)
    have hmul : a3 + nI (i + 1) * a4 = a3 + nI i * a4 + a4 := by
      rw [← nI_1, Int32.add_mul, Int32.one_mul, Int32.add_assoc]
    have body : ∀ y, y = shV k a2 a3 a4 i → Ok (bx (nI i) 60 <| lb (ui I m_volts (Int32.toNatClampNeg (nI i)) y) fun I14 => bx (nI i) 60 <| lb ((shS k a2 a3 a4 i + (I14 m_volts (Int32.toNatClampNeg (nI i))))) fun x15 => lb ((a3 + nI i * a4 + a4)) fun x16 => F_X12_sheet_L46 k a2 a4 J kx K x15 x16 (nI i + 1) I14) Q := by
      intro y hy
      refine Ok.bxe (by omega) (by omega) (Ok.lbv (Ok.bxe (by omega) (by omega) (Ok.lbv (Ok.lbv ?_))))
      rw [n_cl (by omega), hy, ui_r, nI_1, ← shS_s, ← hmul]
      refine ih _ (by rw [ui_c (by decide)]; exact h0) (Sm.mi rfl hs) (fun j hj => ?_)
      rw [ui_s]
      by_cases c : j = i
      · rw [if_pos c, c]
      · rw [if_neg c]; exact hv j (by omega)
    have rest : Ok ((fun (y9 : Int32) => lb (fun (y11 : Int32) (y12 : Int32) => bx y11 60 <| lb (ui I m_volts (Int32.toNatClampNeg y11) y12) fun I14 => bx (nI i) 60 <| lb ((shS k a2 a3 a4 i + (I14 m_volts (Int32.toNatClampNeg (nI i))))) fun x15 => lb ((a3 + nI i * a4 + a4)) fun x16 => F_X12_sheet_L46 k a2 a4 J kx K x15 x16 (nI i + 1) I14) fun j13 => lb (fun (y17 : Int32) => j13 y17 (1 : Int32)) fun j18 => if k = (3 : Int32) then j18 (nI i) else if nI i < a2 then j13 (nI i) (omax (1 : Int32) (omin (9 : Int32) y9)) else j18 (nI i)) (shE k (a3 + nI i * a4))) Q := by
      dsimp only
      refine Ok.lbv (Ok.lbv (Ok.ite (fun c => ?_) (fun c => Ok.ite (fun d => ?_) (fun d => ?_))))
      · exact body 1 (by unfold shV; rw [if_pos (Or.inl c)])
      · refine body _ ?_
        have : ¬ (k = 3 ∨ a2 ≤ nI i) := by
          rintro (h | h)
          · exact c h
          · rw [i_le] at h; rw [i_lt] at d; omega
        unfold shV; rw [if_neg this]
      · refine body 1 ?_
        have : k = 3 ∨ a2 ≤ nI i := Or.inr (by rw [i_le]; rw [i_lt] at d; omega)
        unfold shV; rw [if_pos this]
    unfold shE at rest
    refine Ok.ite (fun c => ?_) (fun c => Ok.ite (fun d => ?_) (fun d => ?_))
    · rw [if_pos c] at rest; exact rest
    · rw [if_neg c, if_pos d] at rest; exact rest
    · rw [if_neg c, if_neg d] at rest; exact rest

theorem OP6 (n : Nat) (b : Bool) (I : HI) (J : HJ) (a1 a2 a3 a4 : Int32) (h : Iv (n + 1) b I J) : Op6 (Iv n) b I J a1 a2 a3 a4 := by
  obtain ⟨B, nb, h⟩ := h
  have hB := h.1
  have h60 := hB.2.2.1
  have hX := h.2.1
  have hM := h.2.2.1
  have no : ∀ r, F_X11_sheet a1 a2 a3 a4 I J = some (r, I, J) → F_X12_sheet a1 a2 a3 a4 I J = some (r, ui I m_self f_Model_thrown 0, J) → Op6 (Iv n) b I J a1 a2 a3 a4 := fun r e1 e2 => ⟨r, I, J, _, J, e1, e2, IV_th h (th_s I 0) Sm.rf⟩
  rcases i_case a1 4 (by omega) with ⟨k, hk, rfl⟩ | ⟨hn, hn2⟩
  · have r0 : F_X12_in (Int32.toInt64 (nI k)) (0 : Int64) (3 : Int64) = some (nI 1) := (in_r (nI k) 0 3 (by omega) (by omega)).1 (by rw [n_int (by omega)]; omega)
    have c1 : ¬ nI k < 0 := (by rw [n_lt (by omega) (by omega)]; omega : ¬ nI k < nI 0)
    have c2 : ¬ (3 : Int32) < nI k := (by rw [n_lt (by omega) (by omega)]; omega : ¬ nI 3 < nI k)
    by_cases d : a2 ≤ (60 : Int32)
    · have main : (nI k = 3 ∨ 0 ≤ a2) → Op6 (Iv n) b I J (nI k) a2 a3 a4 := by
        intro hk3
        have z0 : shS (nI k) a2 a3 a4 0 = 0 := rfl
        have z1 : a3 + nI 0 * a4 = a3 := by rw [show nI 0 = (0 : Int32) from rfl, Int32.zero_mul, Int32.add_zero]
        refine bothF (P := fun r => r.1 = (if nI k = 3 then -3 else shS (nI k) a2 a3 a4 (bL B)) ∧ (∀ j, j < bL B → r.2.1 x_board_volts j = shV (nI k) a2 a3 a4 j) ∧ r.2.1 x_table f_Table_fresh = 0 ∧ Sm [(x_board_volts, none), (x_table, some f_Table_fresh)] I r.2.1) ?_ (fr_X11_sheet (nI k) a2 a3 a4 I J) (fun I1 J1 => fr_X12_sheet (nI k) a2 a3 a4 I1 J1) ?_
        · unfold F_X11_sheet
          refine Ok.f c1 (Ok.f c2 (Ok.t d ?_))
          have hx : ∀ l5, (∀ j, j < 60 → (l5 ≤ nI j ↔ nI k = 3 ∨ a2 ≤ nI j)) → Ok (F_X11_sheet_L47 (nI k) a3 a4 l5 J (fun (y12 : Int32) (I13 : HI) => lb (ui I13 x_table f_Table_fresh (0 : Int32)) fun I14 => if nI k = (3 : Int32) then some ((-3 : Int32), I14, J) else some (y12, I14, J)) bgf (0 : Int32) (0 : Int32) I) (fun r => r.1 = (if nI k = 3 then -3 else shS (nI k) a2 a3 a4 (bL B)) ∧ (∀ j, j < bL B → r.2.1 x_board_volts j = shV (nI k) a2 a3 a4 j) ∧ r.2.1 x_table f_Table_fresh = 0 ∧ Sm [(x_board_volts, none), (x_table, some f_Table_fresh)] I r.2.1) := by
            intro l5 h5
            refine X11_sheet_L h60 I l5 h5 (fun I2 hs hv => ?_) bgf 0 (Nat.zero_le _) (by unfold bgf; omega) I hX.2.1 Sm.rf (fun j hj => by omega)
            have hs2 : Sm [(x_board_volts, none), (x_table, some f_Table_fresh)] I (ui I2 x_table f_Table_fresh 0) := Sm.mi rfl (fun c j hc => hs c j (by
              cases hq : inW [(x_board_volts, none)] c j with
              | false => rfl
              | true => rw [subW_in (b := [(x_board_volts, none), (x_table, some f_Table_fresh)]) (by decide) hq] at hc; cases hc))
            refine Ok.lbv (Ok.ite (fun e => Ok.mk ⟨?_, fun j hj => ?_, ?_, hs2⟩) (fun e => Ok.mk ⟨?_, fun j hj => ?_, ?_, hs2⟩)) <;> dsimp only
            · rw [if_pos e]
            · rw [ui_c (by decide)]; exact hv j hj
            · rw [ui_r]
            · rw [if_neg e]
            · rw [ui_c (by decide)]; exact hv j hj
            · rw [ui_r]
          refine Ok.lbv (Ok.ite (fun e => ?_) (fun e => ?_))
          · refine Ok.lbv (Ok.t e (hx 0 (fun j hj => ⟨fun _ => Or.inl e, fun _ => ?_⟩)))
            exact (by rw [n_le (by omega) (by omega)]; omega : nI 0 ≤ nI j)
          · refine Ok.t (hk3.resolve_left e) (Ok.lbv (Ok.f e (hx a2 (fun j hj => ⟨fun h => Or.inr h, fun h => h.resolve_left e⟩))))
        · intro r I1 J1 hP s1 s2
          obtain ⟨hr, hv, hfr, hsm⟩ := hP
          simp only at hr hv hfr hsm
          have s1x := hsm
          have hM1 : MB B I1 := hM.keep (Ag.of s1 (by decide))
          have sT := th_s I1 0
          have hM2 : MB B (ui I1 m_self f_Model_thrown 0) := hM1.keep (Ag.of sT (by decide))
          unfold F_X12_sheet
          refine Ok.lbv (Ok.cpe r0 (Ok.f (by decide) (Ok.t d (Ok.lbv ?_))))
          have hx : Ok (F_X12_sheet_L46 (nI k) a2 a4 J1 (fun (y19 : Int32) (I20 : HI) => if nI k = (3 : Int32) then some ((-3 : Int32), I20, J1) else some (y19, I20, J1)) bgf (0 : Int32) a3 (0 : Int32) (ui I1 m_self f_Model_thrown 0)) (fun q => q.1 = r ∧ (Sm wi_X12_sheet I1 q.2.1 → Sm wj_X12_sheet J1 q.2.2 → Iv n b q.2.1 q.2.2)) := by
            have hl := X12_sheet_L (k := nI k) (a2 := a2) (a3 := a3) (a4 := a4) (L := bL B) h60 (J := J1) (kx := fun (y19 : Int32) (I20 : HI) => if nI k = (3 : Int32) then some ((-3 : Int32), I20, J1) else some (y19, I20, J1)) (Q := fun q => q.1 = r ∧ (Sm wi_X12_sheet I1 q.2.1 → Sm wj_X12_sheet J1 q.2.2 → Iv n b q.2.1 q.2.2)) (ui I1 m_self f_Model_thrown 0) (fun I2 hs hv2 => ?_) bgf 0 (Nat.zero_le _) (by unfold bgf; omega) (ui I1 m_self f_Model_thrown 0) hM2.2.1 Sm.rf (fun j hj => by omega)
            · rw [z0, z1] at hl; exact hl
            · have fin : Sm wi_X12_sheet I1 I2 → Sm wj_X12_sheet J1 J1 → Iv n b I2 J1 := by
                intro t1 t2
                obtain ⟨_, _, kTx, kN, kTo, kP, k0, k1, _, kF, kMo, kB⟩ := IV_k h s1 s2 t1 t2
                have hAM : Ag rdMB0 I1 I2 := (Ag.of sT (by decide)).tr (Ag.of hs (by decide))
                have hAX : Ag rdXB0 I I2 := (Ag.of s1x (by decide)).tr ((Ag.of sT (by decide)).tr (Ag.of hs (by decide)))
                have hok : OkB (shB B (shN (nI k) a2 a3 a4)) := ⟨hB.1, hB.2.1, hB.2.2.1, hB.2.2.2.1, hB.2.2.2.2.1, hB.2.2.2.2.2.1, hB.2.2.2.2.2.2.1, hB.2.2.2.2.2.2.2.1, hB.2.2.2.2.2.2.2.2.1, fun l hl => by
                  obtain ⟨g1, g2, g3, _, _⟩ := hB.2.2.2.2.2.2.2.2.2 l hl
                  rw [shB_v]
                  exact ⟨g1, g2, g3, (shN_p _ _ _ _ l).2.1, (shN_p _ _ _ _ l).2.2⟩⟩
                refine ⟨shB B (shN (nI k) a2 a3 a4), nb, hok, hX.sh hAX ((Ag.of s2 (by decide)).tr (Ag.of t2 (by decide))) (fun l hl => ?_), hM1.sh hAM (fun l hl => ?_), kTx (by decide), (kN (by decide)).cw rfl rfl, kTo (by decide), (kP (by decide)).cw rfl, KP.cw (k0 (by decide)) rfl, KP.cw (k1 (by decide)) rfl, tab_n ?_, kF (by decide), kMo (by decide), kB (by decide)⟩
                · rw [hs _ _ rfl, sT _ _ rfl, hv l hl]; exact (shN_p _ _ _ _ l).1
                · rw [hv2 l hl]; exact (shN_p _ _ _ _ l).1
                · rw [hs _ _ rfl, sT _ _ rfl]; exact hfr
              refine Ok.ite (fun e => Ok.mk ⟨?_, fin⟩) (fun e => Ok.mk ⟨?_, fin⟩) <;> dsimp only
              · rw [hr, if_pos e]
              · rw [hr, if_neg e]
          refine Ok.ite (fun e => hx) (fun e => Ok.t ?_ hx)
          refine hk3.resolve_left (fun e3 => e ?_)
          rw [e3]; exact Int32.le_refl _
      by_cases e3 : nI k = 3
      · exact main (Or.inl e3)
      · by_cases e0 : 0 ≤ a2
        · exact main (Or.inr e0)
        · have e3' : ¬ (3 : Int32) ≤ nI k := fun hh => e3 (by
            have h3 : nI 3 ≤ nI k := hh
            rw [n_le (by omega) (by omega)] at h3
            have : k = 3 := by omega
            rw [this]; rfl)
          refine no (-2) ?_ ?_
          · unfold F_X11_sheet
            rw [if_neg c1, if_neg c2, if_pos d]
            refine (lb_e _ _).trans ?_
            rw [if_neg e3, if_neg e0]
          · unfold F_X12_sheet
            refine (lb_e _ _).trans ((cp1 r0).trans ?_)
            rw [if_pos d]
            refine (lb_e _ _).trans ?_
            rw [if_neg e3', if_neg e0]
    · refine no (-1) ?_ ?_
      · unfold F_X11_sheet
        rw [if_neg c1, if_neg c2, if_neg d]
      · unfold F_X12_sheet
        refine (lb_e _ _).trans ((cp1 r0).trans ?_)
        rw [if_neg d]
  · refine no (-1) ?_ ?_
    · unfold F_X11_sheet
      rcases hn with hn | hn
      · rw [if_pos hn]
      · by_cases c : a1 < 0
        · rw [if_pos c]
        · rw [if_neg c, if_pos]
          have : (4 : Int32) ≤ a1 := hn
          rw [i_le] at this; rw [i_lt]
          have h3 : (3 : Int32).toInt = 3 := rfl
          have h4 : (4 : Int32).toInt = 4 := rfl
          omega
    · unfold F_X12_sheet
      refine (lb_e _ _).trans (cp0 ((in_r a1 0 3 (by omega) (by omega)).2 (fun ⟨h1, h2⟩ => ?_)))
      obtain ⟨v, e1, e2, _⟩ := i_of (x := a1) (by omega)
      exact hn2 v (by omega) e1

/-! LAYER 2: board, the call -/
theorem and255 {x : Int32} (h1 : -128 ≤ x.toInt) (h2 : x.toInt ≤ 127) : ∃ c, c < 256 ∧ x &&& 255 = nI c ∧ (c < 128 → x = nI c) ∧ (128 ≤ c → x.toInt < 0) := by
  by_cases d : 0 ≤ x.toInt
  · obtain ⟨v, e1, e2, _⟩ := i_of d
    have e1' : x = nI v := e1
    have hv : v < 128 := by omega
    have hd : ∀ j : Fin 128, nI j.val &&& 255 = nI j.val := by decide
    refine ⟨v, by omega, ?_, fun _ => e1', fun h => by omega⟩
    rw [e1']; exact hd ⟨v, hv⟩
  · have hd : ∀ j : Fin 128, nI (4294967168 + j.val) &&& 255 = nI (128 + j.val) := by decide
    have hx : x = nI x.toBitVec.toNat := (n_of (m := 32) (fun i hi => bi_big hi)).2
    have hlt : x.toBitVec.toNat < 2 ^ 32 := x.toBitVec.isLt
    have hti : x.toInt = x.toBitVec.toInt := rfl
    rw [BitVec.toInt_eq_toNat_cond] at hti
    have hge : 4294967168 ≤ x.toBitVec.toNat := by
      by_cases c : 2 * x.toBitVec.toNat < 2 ^ 32
      · rw [if_pos c] at hti; omega
      · rw [if_neg c] at hti; omega
    refine ⟨128 + (x.toBitVec.toNat - 4294967168), by omega, ?_, fun h => by omega, fun _ => by omega⟩
    have := hd ⟨x.toBitVec.toNat - 4294967168, by omega⟩
    simp only at this
    rw [show 4294967168 + (x.toBitVec.toNat - 4294967168) = x.toBitVec.toNat by omega, ← hx] at this
    exact this
theorem text_cd {I : HI} (h : CText I) : ∃ (sz : Nat) (cd : Nat → Nat), sz ≤ 80 ∧ I x_text f_Text_size = nI sz ∧ I m_self f_Model_typed = nI sz ∧ (∀ k, cd k < 256) ∧ ∀ k, k < sz → I x_text_signs k = nI (cd k) ∧ (cd k < 128 → I m_text k = nI (cd k)) ∧ (128 ≤ cd k → (I m_text k).toInt < 0) := by
  obtain ⟨h1, h2, h3, h4⟩ := h
  obtain ⟨sz, e1, e2, _⟩ := i_of h2
  have e1' : I x_text f_Text_size = nI sz := e1
  have hex : ∀ k, ∃ c, c < 256 ∧ (k < sz → I x_text_signs k = nI c ∧ (c < 128 → I m_text k = nI c) ∧ (128 ≤ c → (I m_text k).toInt < 0)) := by
    intro k
    by_cases d : k < sz
    · obtain ⟨g1, g2, g3⟩ := h4 k (by omega)
      obtain ⟨c, c1, c2, c3, c4⟩ := and255 g2 g3
      exact ⟨c, c1, fun _ => ⟨by rw [g1, c2], c3, c4⟩⟩
    · exact ⟨0, by omega, fun h => absurd h d⟩
  exact ⟨sz, fun k => Classical.choose (hex k), by omega, e1', by rw [h1]; exact e1', fun k => (Classical.choose_spec (hex k)).1, fun k hk => (Classical.choose_spec (hex k)).2 hk⟩
/-- what the class has done after the lines P -/
def ckX (P : List Ln) (I0 I : HI) (J0 J : HJ) : Prop := (cwL P = 0 → Sm bdW I0 I ∧ Sm bdV J0 J) ∧ (0 < cwL P → clrX I J)
theorem X11_board_41 {ls : List Ln} (hlen : ls.length ≤ 75) (I0 : HI) (J0 : HJ) {kx : HI → HJ → Option (Int32 × HI × HJ)} {Q : Int32 × HI × HJ → Prop} (B0 : Bd) (hx : ∀ I J, OkB (ls.foldl apL B0) → XB (ls.foldl apL B0) I J → lnX ls I → ckX ls I0 I J0 J → Sm wi_X11_takeLine I0 I → Ok (kx I J) Q) : ∀ (R P : List Ln) (K : Nat) (B : Bd) (I : HI) (J : HJ), ls = P ++ R → R.length < K → B = P.foldl apL B0 → OkB B → chL (bW B) (bL B) R → XB B I J → lnX ls I → ckX P I0 I J0 J → Sm wi_X11_takeLine I0 I → Ok (F_X11_board_L41 kx K (nI P.length) I J) Q := by
  intro R
  induction R with
  | nil =>
    intro P K B I J hP hK hB hok _ hX hn hc hs
    obtain ⟨K, rfl⟩ : ∃ K', K = K' + 1 := ⟨K - 1, by simp at hK; omega⟩
    rw [List.append_nil] at hP
    subst hP
    rw [F_X11_board_L41]
    refine Ok.t (by rw [hn.1, n_le] <;> omega) (hx I J ?_ ?_ hn hc hs)
    · rw [← hB]; exact hok
    · rw [← hB]; exact hX
  | cons l R ih =>
    intro P K B I J hP hK hB hok hch hX hn hc hs
    obtain ⟨K, rfl⟩ : ∃ K', K = K' + 1 := ⟨K - 1, by simp at hK; omega⟩
    have hlt : P.length < ls.length := by rw [hP]; simp
    have hl : ls.getD P.length ln0 = l := by rw [hP, List.getD_eq_getElem?_getD]; simp
    have hE := hn.2 P.length hlt
    rw [hl] at hE
    rw [F_X11_board_L41]
    refine Ok.f (by rw [hn.1, n_le] <;> omega) ?_
    refine Ok.call ((X11_takeLine hok hch.1 (by omega) I J hX hE).fo (fr_X11_takeLine _ I J)) (fun r I7 J8 _ hP' => ?_)
    obtain ⟨⟨q1, q2, q3⟩, t1, t2⟩ := hP'
    simp only at q1 q2 q3 t1 t2
    have hWL := apL_WL hch.1
    have hch2 := hch.2
    rw [← hWL.1, ← hWL.2] at hch2
    have := ih (P ++ [l]) K (apL B l) I7 J8 (by rw [hP]; simp) (by simp at hK; omega) (by rw [List.foldl_append, ← hB]; rfl) (apL_ok hok hch.1) hch2 q1 (hn.keep (Ag.of t1 (by decide))) ?_ (Sm.tr (by decide) hs t1)
    · rw [List.length_append, List.length_singleton] at this
      rw [nI_1]; exact this
    · unfold ckX
      rw [cwL_ap]
      by_cases c : l.1 = 0
      · rw [if_pos c]
        exact ⟨fun h => by omega, fun _ => q2 c⟩
      · rw [if_neg c]
        obtain ⟨u1, u2⟩ := q3 c
        refine ⟨fun h => ⟨Sm.tr (by decide) (hc.1 (by omega)).1 u1, Sm.tr (by decide) (hc.1 (by omega)).2 u2⟩, fun h => ?_⟩
        obtain ⟨v1, v2, v3, v4, v5, v6, v7⟩ := hc.2 (by omega)
        exact ⟨by rw [u1 _ _ rfl]; exact v1, by rw [u1 _ _ rfl]; exact v2, by rw [u1 _ _ rfl]; exact v3, by rw [u1 _ _ rfl]; exact v4, by rw [u1 _ _ rfl]; exact v5, by rw [u1 _ _ rfl]; exact v6, fun i hi => by rw [u2 _ _ rfl]; exact v7 i hi⟩
def ckM (P : List Ln) (I0 I : HI) (J0 J : HJ) : Prop := (cwL P = 0 → Sm bmW I0 I ∧ J = J0) ∧ (0 < cwL P → clrM' I J)
theorem X12_board_361 {ls : List Ln} (hlen : ls.length ≤ 75) (I0 : HI) (J0 : HJ) {nb : Nat} (B0 : Bd) {Q : Int32 × HI × HJ → Prop} (hx : ∀ I J, MB (ls.foldl apL B0) I → I m_self f_Model_boards = nI (nb + cwL ls) → ckM ls I0 I J0 J → Sm wi_X12_take I0 I → Sm wj_X12_take J0 J → Q (nI ls.length, I, J)) : ∀ (R P : List Ln) (K : Nat) (B : Bd) (I : HI) (J : HJ), ls = P ++ R → R.length < K → B = P.foldl apL B0 → OkB B → chL (bW B) (bL B) R → MB B I → lnM ls I → I m_self f_Model_boards = nI (nb + cwL P) → ckM P I0 I J0 J → Sm wi_X12_take I0 I → Sm wj_X12_take J0 J → Ok (F_X12_board_L361 (nI ls.length) K (nI P.length) I J) Q := by
  intro R
  induction R with
  | nil =>
    intro P K B I J hP hK hB hok _ hM hn hb hc hs hs2
    obtain ⟨K, rfl⟩ : ∃ K', K = K' + 1 := ⟨K - 1, by simp at hK; omega⟩
    rw [List.append_nil] at hP
    subst hP
    rw [F_X12_board_L361]
    exact Ok.t (by rw [n_le] <;> omega) (Ok.mk (hx I J (by rw [← hB]; exact hM) hb hc hs hs2))
  | cons l R ih =>
    intro P K B I J hP hK hB hok hch hM hn hb hc hs hs2
    obtain ⟨K, rfl⟩ : ∃ K', K = K' + 1 := ⟨K - 1, by simp at hK; omega⟩
    have hlt : P.length < ls.length := by rw [hP]; simp
    have hl : ls.getD P.length ln0 = l := by rw [hP, List.getD_eq_getElem?_getD]; simp
    have hE := hn P.length hlt
    rw [hl] at hE
    rw [F_X12_board_L361]
    refine Ok.f (by rw [n_le] <;> omega) ?_
    rw [show (4 : Int32) = nI 4 from rfl, n_mul]
    refine Ok.call ((X12_take hok hch.1 (by omega) I J hM hE hb).fo (fr_X12_take _ I J)) (fun r I7 J8 _ hP' => ?_)
    obtain ⟨⟨q1, q0, q2, q3⟩, t1, t2⟩ := hP'
    simp only at q1 q0 q2 q3 t1 t2
    have hWL := apL_WL hch.1
    have hch2 := hch.2
    rw [← hWL.1, ← hWL.2] at hch2
    have := ih (P ++ [l]) K (apL B l) I7 J8 (by rw [hP]; simp) (by simp at hK; omega) (by rw [List.foldl_append, ← hB]; rfl) (apL_ok hok hch.1) hch2 q1 (fun k hk => by
      obtain ⟨y1, y2, y3, y4⟩ := hn k hk
      unfold lnEm
      rw [t1 _ _ rfl, t1 _ _ rfl, t1 _ _ rfl, t1 _ _ rfl]
      exact ⟨y1, y2, y3, y4⟩) (by rw [q0, cwL_ap, Nat.add_assoc]) ?_ (Sm.tr (by decide) hs t1) (Sm.tr (by decide) hs2 t2)
    · rw [List.length_append, List.length_singleton] at this
      rw [nI_1]; exact this
    · unfold ckM
      rw [cwL_ap]
      by_cases c : l.1 = 0
      · rw [if_pos c]
        exact ⟨fun h => by omega, fun _ => q2 c⟩
      · rw [if_neg c]
        obtain ⟨u1, u2⟩ := q3 c
        refine ⟨fun h => ⟨Sm.tr (by decide) (hc.1 (by omega)).1 u1, by rw [u2]; exact (hc.1 (by omega)).2⟩, fun h => ?_⟩
        obtain ⟨v1, v2, v3, v4, v5⟩ := hc.2 (by omega)
        exact ⟨by rw [u1 _ _ rfl]; exact v1, by rw [u1 _ _ rfl]; exact v2, by rw [u1 _ _ rfl]; exact v3, by rw [u1 _ _ rfl]; exact v4, fun i hi => by rw [u2]; exact v5 i hi⟩
theorem apF_W : ∀ (R : List Ln) (B : Bd), chL (bW B) (bL B) R → cwL R = 0 → bW (R.foldl apL B) = bW B ∧ bL B ≤ bL (R.foldl apL B)
  | [], B, _, _ => ⟨rfl, Nat.le_refl _⟩
  | l :: R, B, h, hc => by
    have hWL := apL_WL h.1
    have h2 := h.2
    rw [← hWL.1, ← hWL.2] at h2
    simp only [cwL] at hc
    have c : ¬ l.1 = 0 := fun c => by rw [if_pos c] at hc; omega
    rw [if_neg c] at hc
    obtain ⟨i1, i2⟩ := apF_W R (apL B l) h2 (by omega)
    rw [hWL.1] at i1
    rw [hWL.2] at i2
    unfold wdN at i1
    unfold lmN at i2
    rw [if_neg c] at i1 i2
    refine ⟨i1, Nat.le_trans ?_ i2⟩
    split <;> omega
def wfX : Pl := (x_text, some f_Text_size) :: rtW
def wbX : Pl := (x_table, some f_Table_fresh) :: (bdW ++ wfX)
theorem X11_board {B : Bd} (hB : OkB B) {sz : Nat} {cd : Nat → Nat} (hsz : sz ≤ 80) (I : HI) (J : HJ) (hX : XB B I J) (h1 : I x_text f_Text_size = nI sz) (hcd : ∀ k, cd k < 256) (h2 : ∀ k, k < sz → I x_text_signs k = nI (cd k)) : Ok (F_X11_board I J) (fun q => q.2.1 x_text f_Text_size = 0 ∧ ((∃ e, rdT cd sz (bW B) (bL B) = Sum.inl e ∧ q.1 = (-1) - nI e ∧ Sm wfX I q.2.1 ∧ q.2.2 = J) ∨ (∃ ls, rdT cd sz (bW B) (bL B) = Sum.inr ls ∧ q.1 = nI ls.length ∧ XB (ls.foldl apL B) q.2.1 q.2.2 ∧ OkB (ls.foldl apL B) ∧ q.2.1 x_table f_Table_fresh = 0 ∧ chL (bW B) (bL B) ls ∧ ls.length ≤ 75 ∧ (cwL ls = 0 → Sm wbX I q.2.1 ∧ Sm bdV J q.2.2) ∧ (0 < cwL ls → clrX q.2.1 q.2.2)))) := by
  have hwd : 2 ≤ bW B ∧ bW B ≤ 10 := ⟨hB.1, hB.2.1⟩
  have h60 := hB.2.2.1
  unfold F_X11_board
  rw [hX.1, hX.2.1]
  refine Ok.call (X6_read hsz hwd h60 hcd I J h1 h2) (fun r I4 J5 _ hP => ?_)
  obtain ⟨p1, p2, p3⟩ := hP
  simp only at p1 p2 p3
  subst p1
  refine Ok.lbv ?_
  have s6 : Sm [(x_text, some f_Text_size)] I4 (ui I4 x_text f_Text_size 0) := Sm.mi rfl Sm.rf
  have s6' : Sm wfX I (ui I4 x_text f_Text_size 0) := Sm.tr (by decide) (Sm.tr (by decide) Sm.rf p2) s6
  rcases p3 with ⟨e, e0, e1, e2⟩ | ⟨ls, e1, e2, e3⟩
  · rw [e2]
    refine Ok.f (n_ne1l (by omega)) (Ok.mk ⟨by dsimp only; rw [ui_r], Or.inl ⟨e, e1, rfl, s6', rfl⟩⟩)
  · have hch : chL (bW B) (bL B) ls ∧ ls.length ≤ 75 := by
      unfold rdT at e1
      by_cases c0 : sz = 0
      · rw [if_pos c0] at e1; injection e1 with e1; rw [← e1]; exact ⟨trivial, by simp⟩
      · rw [if_neg c0] at e1
        cases hr : rdS cd (min sz 76) 80 0 (bW B) (bL B) [] with
        | inl e => rw [hr] at e1; cases e1
        | inr ls' =>
          rw [hr] at e1
          simp only at e1
          by_cases c : sz ≤ 76
          · rw [if_pos c] at e1
            injection e1 with e1
            obtain ⟨R, r1, r2, r3⟩ := rdS_ch 80 0 _ _ [] ls' hwd h60 (by omega) (by simp) hr
            rw [List.nil_append] at r1
            rw [← e1, r1]
            rw [r1] at r3
            exact ⟨r2, by omega⟩
          · rw [if_neg c] at e1; cases e1
    refine Ok.t e2 ?_
    refine X11_board_41 hch.2 (ui I4 x_text f_Text_size 0) J5 B (fun I9 J10 g1 g2 g3 g4 g5 => ?_) ls [] bgf B _ J5 rfl (by unfold bgf; have := hch.2; omega) rfl hB hch.1 (hX.keep (Ag.of s6' (by decide)) (fun _ _ _ => rfl)) (e3.keep (Ag.of s6 (by decide))) ⟨fun _ => ⟨Sm.rf, Sm.rf⟩, fun h => absurd h (by simp [cwL])⟩ Sm.rf
    refine Ok.lbv ?_
    have sF : Sm [(x_table, some f_Table_fresh)] I9 (ui I9 x_table f_Table_fresh 0) := Sm.mi rfl Sm.rf
    refine Ok.mk ⟨?_, Or.inr ⟨ls, e1, ?_, g2.keep (Ag.of sF (by decide)) (fun _ _ _ => rfl), g1, by dsimp only; rw [ui_r], hch.1, hch.2, fun h => ⟨?_, (g4.1 h).2⟩, fun h => ?_⟩⟩ <;> dsimp only
    · rw [sF _ _ rfl, g5 _ _ rfl, ui_r]
    · rw [sF _ _ rfl]; exact g3.1
    · exact Sm.tr (by decide) (Sm.tr (by decide) (Sm.tr (by decide) Sm.rf s6') (g4.1 h).1) sF
    · obtain ⟨v1, v2, v3, v4, v5, v6, v7⟩ := g4.2 h
      exact ⟨by rw [sF _ _ rfl]; exact v1, by rw [sF _ _ rfl]; exact v2, by rw [sF _ _ rfl]; exact v3, by rw [sF _ _ rfl]; exact v4, by rw [sF _ _ rfl]; exact v5, by rw [sF _ _ rfl]; exact v6, v7⟩

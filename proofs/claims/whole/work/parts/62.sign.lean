/-! LAYER 2: sign -/
theorem bv_m (y : BitVec 32) : (y &&& 255#32) % 65536#32 = y &&& 255#32 := by
  apply BitVec.eq_of_toNat_eq
  have h : y.toNat &&& 255 ≤ 255 := Nat.and_le_right
  simp only [BitVec.toNat_umod, BitVec.toNat_and, BitVec.toNat_ofNat]
  have e : 255 % 2 ^ 32 = 255 := by decide
  have e2 : 65536 % 2 ^ 32 = 65536 := by decide
  rw [e, e2]
  omega
theorem bv_255 (i : Nat) (hi : i < 32) : (255#32).getLsbD i = decide (i < 8) := by
  have : ∀ j : Fin 32, (255#32).getLsbD j = decide ((j : Nat) < 8) := by decide
  exact this ⟨i, hi⟩
theorem bv_by (v : BitVec 32) (s : Nat) (hs : s ≤ 24) : (v >>> s &&& 255#32) % 65536#32 % 65536#32 = BitVec.signExtend 32 (BitVec.signExtend 8 (v.sshiftRight s)) &&& 255#32 := by
  rw [bv_m, bv_m]
  apply BitVec.eq_of_getLsbD_eq
  intro i hi
  rw [BitVec.getLsbD_and, BitVec.getLsbD_and, bv_255 i hi]
  by_cases h8 : i < 8
  · simp only [h8, decide_true, Bool.and_true]
    rw [BitVec.getLsbD_ushiftRight, BitVec.getLsbD_signExtend, BitVec.getLsbD_signExtend, BitVec.getLsbD_sshiftRight]
    have hlt : s + i < 32 := by omega
    have hge : ¬ 32 ≤ i := by omega
    simp [h8, hi, hlt, hge]
  · simp [h8]
theorem byte_3 (x : Int32) : vp_nar .char (oi2c ((oushr x 24) &&& 255)) = (vp_nar .byte (oi2b (oshr x (8 * 3)))) &&& 255 := by
  apply Int32.toBitVec_inj.mp
  simp only [vp_nar, narrow]
  simp
  exact bv_by x.toBitVec 24 (by decide)
theorem byte_2 (x : Int32) : vp_nar .char (oi2c ((oushr x (24 + (-8))) &&& 255)) = (vp_nar .byte (oi2b (oshr x (8 * (3 + (-1)))))) &&& 255 := by
  apply Int32.toBitVec_inj.mp
  simp only [vp_nar, narrow]
  simp
  exact bv_by x.toBitVec 16 (by decide)
theorem byte_1 (x : Int32) : vp_nar .char (oi2c ((oushr x (24 + (-8) + (-8))) &&& 255)) = (vp_nar .byte (oi2b (oshr x (8 * (3 + (-1) + (-1)))))) &&& 255 := by
  apply Int32.toBitVec_inj.mp
  simp only [vp_nar, narrow]
  simp
  exact bv_by x.toBitVec 8 (by decide)
theorem byte_0 (x : Int32) : vp_nar .char (oi2c ((oushr x (24 + (-8) + (-8) + (-8))) &&& 255)) = (vp_nar .byte (oi2b (oshr x (8 * (3 + (-1) + (-1) + (-1)))))) &&& 255 := by
  apply Int32.toBitVec_inj.mp
  simp only [vp_nar, narrow]
  simp
  simpa using bv_by x.toBitVec 0 (by decide)
theorem byte_r (x : Int32) : -128 ≤ (vp_nar .byte x).toInt ∧ (vp_nar .byte x).toInt ≤ 127 := by
  have h : vp_nar .byte x = x.toInt8.toInt32 := rfl
  rw [h, Int8.toInt_toInt32]
  exact ⟨Int8.le_toInt _, by have := Int8.toInt_lt x.toInt8; omega⟩
theorem i_of {x : Int32} (h : 0 ≤ x.toInt) : ∃ n : Nat, x = Int32.ofNat n ∧ (n : Int) = x.toInt ∧ n < 2 ^ 31 := by
  have h2 := (i_rng x).2
  refine ⟨x.toInt.toNat, ?_, by omega, by omega⟩
  apply Int32.toInt_inj.mp
  rw [show (Int32.ofNat x.toInt.toNat).toInt = (x.toInt.toNat : Int) from nI_toInt (by omega)]
  omega
theorem cl_of {n : Nat} (h : n < 2 ^ 31) : (Int32.ofNat n).toNatClampNeg = n := by
  have h1 : (Int32.ofNat n).toInt = (n : Int) := nI_toInt h
  have h2 := i_nat (x := Int32.ofNat n) (by omega)
  omega
theorem bx_of {α : Type} {n N : Nat} {f : Option α} (h : n < N) (hN : N < 2 ^ 31) : bx (Int32.ofNat n) N f = f := by
  unfold bx
  have h1 : (Int32.ofNat n).toInt = (n : Int) := nI_toInt (by omega)
  exact if_neg (inI (by omega) (by omega))
theorem of_1 (n : Nat) : Int32.ofNat n + 1 = Int32.ofNat (n + 1) := nI_add n 1
def wS (I : HI) (n : Nat) (v : Int32) : HI := ui (ui I x_text_signs n v) x_text f_Text_size (Int32.ofNat (n + 1))
theorem app_step (l1 : Int32) (J : HJ) (K : Nat) (l2 : Int32) (I : HI) (n : Nat) (hn : n < 80) (hs : I x_text f_Text_size = Int32.ofNat n) (h2 : ¬ l2 < 0) :
    F_X9_append_L19 l1 J (K + 1) l2 I = F_X9_append_L19 l1 J K (l2 + (-8)) (wS I n (vp_nar .char (oi2c ((oushr l1 l2) &&& 255)))) := by
  rw [F_X9_append_L19, if_neg h2]
  have e : ui I x_text_signs n (vp_nar .char (oi2c ((oushr l1 l2) &&& 255))) x_text f_Text_size = Int32.ofNat n := by rw [ui_c (by decide)]; exact hs
  rw [hs, bx_of hn (by decide)]
  simp only [lb, wS]
  rw [cl_of (by omega), e, of_1]
theorem wS_s (I : HI) (n : Nat) (v : Int32) : wS I n v x_text f_Text_size = Int32.ofNat (n + 1) := ui_r
theorem X9_app (l1 : Int32) (I : HI) (J : HJ) (n : Nat) (hs : I x_text f_Text_size = Int32.ofNat n) (hn : n + 4 ≤ 80) :
    F_X9_append l1 I J = some (1, wS (wS (wS (wS I n (vp_nar .char (oi2c ((oushr l1 24) &&& 255)))) (n + 1) (vp_nar .char (oi2c ((oushr l1 (24 + (-8))) &&& 255)))) (n + 2) (vp_nar .char (oi2c ((oushr l1 (24 + (-8) + (-8))) &&& 255)))) (n + 3) (vp_nar .char (oi2c ((oushr l1 (24 + (-8) + (-8) + (-8))) &&& 255))), J) := by
  unfold F_X9_append
  have h4 : I x_text f_Text_size + 4 ≤ 80 := by
    rw [hs, show Int32.ofNat n + 4 = Int32.ofNat (n + 4) from nI_add n 4, i_le, show (Int32.ofNat (n + 4)).toInt = ((n + 4 : Nat) : Int) from nI_toInt (by omega)]
    simp
    omega
  rw [if_pos h4, show bgf = 999995 + 1 + 1 + 1 + 1 + 1 from rfl]
  rw [app_step l1 J _ _ _ n (by omega) hs (by decide), app_step l1 J _ _ _ (n + 1) (by omega) (wS_s _ _ _) (by decide), app_step l1 J _ _ _ (n + 2) (by omega) (wS_s _ _ _) (by decide), app_step l1 J _ _ _ (n + 3) (by omega) (wS_s _ _ _) (by decide)]
  rw [F_X9_append_L19, if_pos (by decide)]
theorem X9_full (l1 : Int32) (I : HI) (J : HJ) (n : Nat) (hs : I x_text f_Text_size = Int32.ofNat n) (hn : n ≤ 80) (h4 : 80 < n + 4) : F_X9_append l1 I J = some (0, I, J) := by
  unfold F_X9_append
  rw [if_neg]
  rw [hs, show Int32.ofNat n + 4 = Int32.ofNat (n + 4) from nI_add n 4, i_le, show (Int32.ofNat (n + 4)).toInt = ((n + 4 : Nat) : Int) from nI_toInt (by omega)]
  simp
  omega
def wM (I : HI) (n : Nat) (v : Int32) : HI := ui (ui I m_self f_Model_typed (Int32.ofNat (n + 1))) m_text n v
theorem sg_step (l1 : Int32) (J : HJ) (kx : HI → Option (Int32 × HI × HJ)) (K : Nat) (l2 : Int32) (I : HI) (n : Nat) (hn : n < 80) (hs : I m_self f_Model_typed = Int32.ofNat n) (h2 : ¬ l2 < 0) :
    F_X12_sign_L20 l1 J kx (K + 1) l2 I = F_X12_sign_L20 l1 J kx K (l2 + (-1)) (wM I n (vp_nar .byte (oi2b (oshr l1 (8 * l2))))) := by
  rw [F_X12_sign_L20, if_neg h2]
  rw [hs, of_1]
  simp only [lb]
  rw [bx_of hn (by decide), cl_of (by omega)]
  rfl
theorem wM_s (I : HI) (n : Nat) (v : Int32) : wM I n v m_self f_Model_typed = Int32.ofNat (n + 1) := by
  unfold wM
  rw [ui_c (by decide), ui_r]
theorem X12_sign_ok (l1 : Int32) (I : HI) (J : HJ) (n : Nat) (hs : I m_self f_Model_typed = Int32.ofNat n) (hn : n + 4 ≤ 80) :
    F_X12_sign l1 I J = some (Int32.ofNat (n + 4), wM (wM (wM (wM (ui I m_self f_Model_thrown 0) n (vp_nar .byte (oi2b (oshr l1 (8 * 3))))) (n + 1) (vp_nar .byte (oi2b (oshr l1 (8 * (3 + (-1))))))) (n + 2) (vp_nar .byte (oi2b (oshr l1 (8 * (3 + (-1) + (-1))))))) (n + 3) (vp_nar .byte (oi2b (oshr l1 (8 * (3 + (-1) + (-1) + (-1)))))), J) := by
  have e : ui I m_self f_Model_thrown 0 m_self f_Model_typed = Int32.ofNat n := by rw [ui_j (by decide)]; exact hs
  unfold F_X12_sign
  have h4 : Int32.ofNat n + 4 ≤ 80 := by
    rw [show Int32.ofNat n + 4 = Int32.ofNat (n + 4) from nI_add n 4, i_le, show (Int32.ofNat (n + 4)).toInt = ((n + 4 : Nat) : Int) from nI_toInt (by omega)]
    simp
    omega
  simp only [lb]
  rw [e, if_pos h4, show bgf = 999995 + 1 + 1 + 1 + 1 + 1 from rfl]
  rw [sg_step l1 J _ _ _ _ n (by omega) e (by decide), sg_step l1 J _ _ _ _ (n + 1) (by omega) (wM_s _ _ _) (by decide), sg_step l1 J _ _ _ _ (n + 2) (by omega) (wM_s _ _ _) (by decide), sg_step l1 J _ _ _ _ (n + 3) (by omega) (wM_s _ _ _) (by decide)]
  rw [F_X12_sign_L20, if_pos (by decide), wM_s]
theorem X12_sign_full (l1 : Int32) (I : HI) (J : HJ) (n : Nat) (hs : I m_self f_Model_typed = Int32.ofNat n) (hn : n ≤ 80) (h4 : 80 < n + 4) : F_X12_sign l1 I J = some (-1, ui I m_self f_Model_thrown 0, J) := by
  have e : ui I m_self f_Model_thrown 0 m_self f_Model_typed = Int32.ofNat n := by rw [ui_j (by decide)]; exact hs
  unfold F_X12_sign
  simp only [lb]
  rw [e, if_neg]
  rw [show Int32.ofNat n + 4 = Int32.ofNat (n + 4) from nI_add n 4, i_le, show (Int32.ofNat (n + 4)).toInt = ((n + 4 : Nat) : Int) from nI_toInt (by omega)]
  simp
  omega
theorem wS_n (I : HI) (n k : Nat) (v : Int32) : wS I n v x_text_signs k = if k = n then v else I x_text_signs k := by
  unfold wS
  rw [ui_c (by decide), ui_at]
  simp
theorem wS_o (I : HI) (n c k : Nat) (v : Int32) (h1 : c ≠ x_text) (h2 : c ≠ x_text_signs) : wS I n v c k = I c k := by
  unfold wS
  rw [ui_c h1, ui_c h2]
theorem wM_n (I : HI) (n k : Nat) (v : Int32) : wM I n v m_text k = if k = n then v else I m_text k := by
  unfold wM
  rw [ui_at, ui_c (by decide)]
  simp
theorem wM_o (I : HI) (n c k : Nat) (v : Int32) (h1 : c ≠ m_self) (h2 : c ≠ m_text) : wM I n v c k = I c k := by
  unfold wM
  rw [ui_c h2, ui_c h1]
theorem O0 (v : Int32) (I : HI) (J : HJ) (h : CText I) : ∃ r I1 J1 I2 J2, F_X11_sign v I J = some (r, I1, J1) ∧ F_X12_sign v I1 J1 = some (r, I2, J2) ∧ CText I2 := by
  have h0 := h
  obtain ⟨h1, h2, h3, h4⟩ := h
  obtain ⟨n, e1, e2, e3⟩ := i_of h2
  have hn : n ≤ 80 := by omega
  by_cases c : n + 4 ≤ 80
  · have hX : ∃ A, A = wS (wS (wS (wS I n (vp_nar .char (oi2c ((oushr v 24) &&& 255)))) (n + 1) (vp_nar .char (oi2c ((oushr v (24 + (-8))) &&& 255)))) (n + 2) (vp_nar .char (oi2c ((oushr v (24 + (-8) + (-8))) &&& 255)))) (n + 3) (vp_nar .char (oi2c ((oushr v (24 + (-8) + (-8) + (-8))) &&& 255))) ∧ F_X11_sign v I J = some (Int32.ofNat (n + 4), A, J) := by
      refine ⟨_, rfl, ?_⟩
      unfold F_X11_sign
      rw [X9_app v I J n e1 c]
      simp only [cl, Option.bind_some]
      rw [if_neg (by decide), wS_s]
    obtain ⟨A, hA, hX⟩ := hX
    have a0 : A m_self f_Model_typed = Int32.ofNat n := by
      rw [hA]
      simp only [wS_o _ _ _ _ _ (show m_self ≠ x_text by decide) (show m_self ≠ x_text_signs by decide)]
      rw [h1, e1]
    have hM := X12_sign_ok v A J n a0 c
    generalize hC : wM (wM (wM (wM (ui A m_self f_Model_thrown 0) n (vp_nar .byte (oi2b (oshr v (8 * 3))))) (n + 1) (vp_nar .byte (oi2b (oshr v (8 * (3 + (-1))))))) (n + 2) (vp_nar .byte (oi2b (oshr v (8 * (3 + (-1) + (-1))))))) (n + 3) (vp_nar .byte (oi2b (oshr v (8 * (3 + (-1) + (-1) + (-1)))))) = C at hM
    refine ⟨_, _, _, _, _, hX, hM, ?_⟩
    have i4 : (Int32.ofNat (n + 4)).toInt = ((n + 4 : Nat) : Int) := nI_toInt (by omega)
    have a1 : A x_text f_Text_size = Int32.ofNat (n + 4) := by rw [hA, wS_s]
    have a2 : ∀ k, A m_text k = I m_text k := fun k => by
      rw [hA]
      simp only [wS_o _ _ _ _ _ (show m_text ≠ x_text by decide) (show m_text ≠ x_text_signs by decide)]
    have c1 : C m_self f_Model_typed = Int32.ofNat (n + 4) := by rw [← hC, wM_s]
    have c2 : ∀ c' k, c' ≠ m_self → c' ≠ m_text → C c' k = A c' k := fun c' k g1 g2 => by
      rw [← hC]
      rw [wM_o _ _ _ _ _ g1 g2, wM_o _ _ _ _ _ g1 g2, wM_o _ _ _ _ _ g1 g2, wM_o _ _ _ _ _ g1 g2, ui_c g1]
    have c4 : C x_text f_Text_size = Int32.ofNat (n + 4) := by rw [c2 _ _ (by decide) (by decide), a1]
    refine ⟨by rw [c1, c4], by rw [c4, i4]; omega, by rw [c4, i4]; omega, fun k hk => ?_⟩
    rw [c4, i4] at hk
    rw [c2 _ _ (by decide) (by decide), hA, ← hC]
    simp only [wM_n, wS_n, ui_c (show m_text ≠ m_self by decide), a2]
    repeat' split
    all_goals first | exact ⟨byte_0 v, byte_r _⟩ | exact ⟨byte_1 v, byte_r _⟩ | exact ⟨byte_2 v, byte_r _⟩ | exact ⟨byte_3 v, byte_r _⟩ | (exfalso; omega) | exact h4 k (by omega)
  · have hX : F_X11_sign v I J = some (-1, I, J) := by
      unfold F_X11_sign
      rw [X9_full v I J n e1 hn (by omega)]
      rfl
    exact ⟨_, _, _, _, _, hX, X12_sign_full v I J n (by rw [h1, e1]) hn (by omega), CText.keep h0 (Ag.of (w := [(m_self, some f_Model_thrown)]) (Sm.mi rfl Sm.rf) (by decide))⟩

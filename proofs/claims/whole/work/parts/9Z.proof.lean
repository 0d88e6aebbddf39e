/-! LAYER 2: proof, the call -/
theorem bmS_lt (cv : Nat → Int32) (N : Nat) : ∀ k, ∃ j, bmS cv N k = nI j ∧ (j < k ∨ j = 0)
  | 0 => ⟨0, rfl, Or.inr rfl⟩
  | k+1 => by
    show ∃ j, (if pci (bmS cv N k) < pci (nI k) ∧ apB cv N (nI k) = true then nI k else bmS cv N k) = nI j ∧ _
    split
    · exact ⟨k, rfl, Or.inl (by omega)⟩
    · obtain ⟨j, h1, h2⟩ := bmS_lt cv N k
      exact ⟨j, h1, by omega⟩
theorem bmS_pc {cv : Nat → Int32} {N m : Nat} (hm : m ≤ 12) : pci (bmS cv N (2 ^ m)) = pcP m (bi (bmS cv N (2 ^ m))) := by
  have h2 : 0 < 2 ^ m := Nat.pow_pos (by omega)
  obtain ⟨j, h1, h3⟩ := bmS_lt cv N (2 ^ m)
  show pcP 32 (bi (bmS cv N (2 ^ m))) = _
  refine pc_gap (by omega) (fun i hi _ => ?_)
  rw [h1]; exact bi_nm hm (by omega) hi
theorem OP25 (n : Nat) (b : Bool) (I : HI) (J : HJ) (a1 a2 a3 a4 : Int32) (h : Iv (n + 1) b I J) : Op25 (Iv n) b I J a1 a2 a3 a4 := by
  obtain ⟨B, nb, h⟩ := h
  have hB := h.1
  have hX := h.2.1
  have hM0 := h.2.2.1
  have hTF := h.2.2.2.2.2.2.2.2.2
  have no : ∀ r : Int32, ¬ r = 0 → ¬ 0 ≤ r → F_X11_openParting a1 I J = some (r, I, J) → F_X12_refusal a1 (ui I m_self f_Model_thrown 0) J = some r → Op25 (Iv n) b I J a1 a2 a3 a4 := by
    intro r r0 r1 e1 e2
    refine ⟨r, I, J, ui I m_self f_Model_thrown 0, J, ?_, ?_, IV_th h (th_s I 0) Sm.rf⟩
    · unfold F_X11_proof
      rw [e1]
      show (if r = 0 then _ else _) = _
      rw [if_neg r0]
    · unfold F_X12_proof
      refine (lb_e _ _).trans ?_
      rw [e2]
      show (if 0 ≤ r then _ else _) = _
      rw [if_neg r1]
  have hM0' : MB B (ui I m_self f_Model_thrown 0) := hM0.keep (Ag.of (th_s I 0) (by decide))
  rcases i_case a1 4 (by omega) with ⟨i, hi, rfl⟩ | ⟨hn, _⟩
  · obtain ⟨hpm, hpk⟩ := h.2.2.2.2.1.2.2.2.1 i hi
    by_cases hW : bW B ≤ 7
    · by_cases hp12 : pc (J x_notes_pictures i) ≤ 12
      · have hp := p3_le hW
        have hC : (lsP (J x_notes_pictures i) 60).length ≤ 12 := by
          rw [lsP_len]
          have : pcP 60 (bt (J x_notes_pictures i)) ≤ pcP 64 (bt (J x_notes_pictures i)) := pc_mono (by omega)
          have : pcP 64 (bt (J x_notes_pictures i)) = pc (J x_notes_pictures i) := rfl
          omega
        have h12 : (2 : Nat) ^ (lsP (J x_notes_pictures i) 60).length ≤ 2 ^ 12 := Nat.pow_le_pow_right (by omega) hC
        have h2 : 0 < (2 : Nat) ^ (lsP (J x_notes_pictures i) 60).length := Nat.pow_pos (by omega)
        have h60 : ∀ k, k < (lsP (J x_notes_pictures i) 60).length → (lsP (J x_notes_pictures i) 60).getD k 0 < 60 := fun k hk => lsP_lt hk
        obtain ⟨x, hx⟩ : ∃ x, x = bmS (cvI B (J x_notes_pictures i)) (3 ^ bW B) (2 ^ (lsP (J x_notes_pictures i) 60).length) := ⟨_, rfl⟩
        have hpc : pc (lmS (lsP (J x_notes_pictures i) 60) x (lsP (J x_notes_pictures i) 60).length) = pci x := by
          rw [lmS_pc h60 (fun a b ha hb e => lsP_inj ha hb e) (Nat.le_refl _), hx, bmS_pc hC]
        refine srch h (fr_X11_proof (nI i) I J) (fun I1 J1 => fr_X12_proof (nI i) I1 J1) (by decide) (nI (pci x)) (some [lmS (lsP (J x_notes_pictures i) 60) x (lsP (J x_notes_pictures i) 60).length]) ?_ ?_
        · unfold F_X11_proof
          refine Ok.call (openP_ok hB hW hi I J hX hTF.1 hTF.2.1 hp12) (fun r I2 J2 _ hP => ?_)
          obtain ⟨q1, q2, q3, q4, q5⟩ := hP
          simp only at q1 q2 q3 q4 q5
          refine Ok.t q1 ?_
          have hmost : Ok (F_X4_mostApart I2 J2) (fun q => q.1 = lmS (lsP (J x_notes_pictures i) 60) x (lsP (J x_notes_pictures i) 60).length ∧ rfQ B q.2.1 q.2.2) := by
            unfold F_X4_mostApart
            refine Ok.call (X4_near (cv := cvI B (J x_notes_pictures i)) hp hC I2 J2 q3.1.2.1 q4.1 q5) (fun r I3 J3 _ hP => ?_)
            obtain ⟨w1, w2, w3⟩ := hP
            simp only at w1 w2 w3
            subst w1
            have e0 : pci (bmS (cvI B (J x_notes_pictures i)) (3 ^ bW B) 0) = 0 := pcP_0 (fun k _ => bi_z k)
            have hmm := X4_most (cv := cvI B (J x_notes_pictures i)) (N := 3 ^ bW B) (J := J3) hC (by rw [w3 _ _ rfl]; exact q4.1) w2 (kx := fun (y10 : Int32) => F_X4_mostApart_L54 y10 I3 J3 bgf (0 : Int64) (0 : Int32)) (Q := fun q => q.1 = lmS (lsP (J x_notes_pictures i) 60) x (lsP (J x_notes_pictures i) 60).length ∧ rfQ B q.2.1 q.2.2) ?_ bgf 0 (Nat.zero_le _) (by unfold bgf; omega)
            · rw [e0] at hmm; exact hmm
            · rw [← hx]
              exact ⟨_, X4_lamps hC h60 ⟨by rw [w3 _ _ rfl]; exact q4.1, fun k hk => by rw [w3 _ _ rfl]; exact q4.2 k hk⟩ bgf 0 (Nat.zero_le _) (by unfold bgf; omega), rfl, q3.keep (Ag.of w3 (by decide)) (fun _ _ _ => rfl) (Ag.of w3 (by decide)) (fun _ _ _ => rfl)⟩
          refine Ok.call hmost (fun r I3 J3 _ hP => ?_)
          obtain ⟨w1, w2⟩ := hP
          simp only at w1 w2
          refine clr1 (fun I4 c1 c2 => add1 c1 (by simp) (fun I5 J5 d1 d2 d3 => ?_))
          refine Ok.cpe (bcN _) (Ok.mk ⟨by dsimp only; rw [w1, hpc], ((w2.k1 c2 Sm.rf).k1 d2 d3).tab, ((w2.k1 c2 Sm.rf).k1 d2 d3).2.2, ?_⟩)
          rw [w1] at d1; exact d1
        · intro I1 J1 hM hMo u1 u2
          have sT := th_s I1 0
          have hM2 : MB B (ui I1 m_self f_Model_thrown 0) := hM.keep (Ag.of sT (by decide))
          have hpe : J1 m_pictures i = J x_notes_pictures i := by rw [u2 _ _ rfl]; exact hpm
          unfold F_X12_proof
          refine Ok.lbv (Ok.cpe (ref_4 hB hW hi _ J1 hM2) ?_)
          rw [hpe, if_pos hp12]
          refine Ok.t (by decide) (Ok.bxe (by omega) (by omega) ?_)
          rw [n_cl (by omega), hpe]
          refine Ok.call (X12_turns hB hW hpk hp12 _ J1 hM2 (hMo.keep (Ag.of sT (by decide)))) (fun r I2 J2 _ hP => ?_)
          obtain ⟨q1, q2, q3, q4, q5⟩ := hP
          simp only at q1 q2 q3 q4 q5
          have h1 : bmS (cvI B (J x_notes_pictures i)) (3 ^ bW B) 1 = nI 0 := if_neg (fun hh => absurd hh.1 (Nat.lt_irrefl _))
          have := X12_most (cv := cvI B (J x_notes_pictures i)) (N := 3 ^ bW B) hp hC (X12_settings (J := J2) _ hW q4.1) q2 q1.1 (kx := fun (y17 : Int32) => F_X12_proof_L128 y17 I2 J2 (fun (y23 : Int64) => lb (ui I2 m_self f_Model_rowMany (0 : Int32)) fun I24 => cl (F_X12_tell y23 I24 J2) fun _ I25 J26 => cp (F_J6_bitCount_0f7a4 y17) fun r27 => some (r27, I25, J26)) bgf (0 : Int64) (0 : Int32)) (Q := fun q => q.1 = nI (pci x) ∧ CMod q.2.1 ∧ toM (some [lmS (lsP (J x_notes_pictures i) 60) x (lsP (J x_notes_pictures i) 60).length]) I1 J1 q.2.1 q.2.2) ?_ bgf 1 (by omega) (by unfold bgf; omega)
          · rw [h1] at this; exact this
          · rw [← hx]
            refine X12_lamps hC q1 ?_ bgf 0 (Nat.zero_le _) (by unfold bgf; omega)
            refine clrM (J := J2) (fun I6 c1 c2 => tel1 c1 (by simp) (fun I7 J7 d1 d2 d3 => ?_))
            exact Ok.cpe (bcNi _) (Ok.mk ⟨rfl, (q5.k1 c2).k1 d2, d1⟩)
      · refine no (-4) (by decide) (by decide) (openP_4 hB hW hi I J hX hp12) ?_
        rw [ref_4 hB hW hi _ J hM0', hpm, if_neg hp12]
    · exact no (-3) (by decide) (by decide) (openP_3 hB hW hi I J hX) (ref_3 hB hW hi _ J hM0')
  · exact no (-1) (by decide) (by decide) (openP_1 hn I J) (ref_1 hn _ J)

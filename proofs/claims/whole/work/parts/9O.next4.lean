/-! LAYER 2: next, the call -/
theorem OP40 (n : Nat) (b : Bool) (I : HI) (J : HJ) (a1 a2 a3 a4 : Int32) (h : Iv (n + 1) b I J) : Op40 (Iv n) b I J a1 a2 a3 a4 := by
  obtain ⟨B, nb, h⟩ := h
  have hB := h.1
  have h60 := hB.2.2.1
  have hX := h.2.1
  have hM0 := h.2.2.1
  have hTF := h.2.2.2.2.2.2.2.2.2
  have hN := h.2.2.2.2.1
  obtain ⟨m, sh, sl, sg, hSx, hSm⟩ := h.2.2.2.2.1.sn
  obtain ⟨C, hCe⟩ : ∃ C, C = agL B m sh sl sg (nF B) := ⟨_, rfl⟩
  have hC : C.length ≤ 116 := by rw [hCe]; exact Nat.le_trans (agL_len B m sh sl sg (nF B)) (nF_le hB)
  have hCl : ∀ k, k < C.length → C.getD k 0 < nF B := by rw [hCe]; exact fun k hk => agL_lt hk

  by_cases hW : bW B ≤ 7
  · have hp := p3_le hW
    skip
    refine srch h (fr_X11_next I J) (fun I1 J1 => fr_X12_next I1 J1) (by decide) (if C.length = 0 then -2 else nI (bsN (wsA B C) C.length (3 ^ bW B)).1) (if C.length = 0 then none else some [Int32.toInt64 (fuI (bsN (wsA B C) C.length (3 ^ bW B)).2)]) ?_ ?_
    · unfold F_X11_next
      refine openX hB hW hX hTF.1 hTF.2.1 (fun I3 J4 hX3 hR s1 s2 => ?_)
      refine Ok.call ((X7_gather hB I3 J4 hX3 hR.2.2 (hSx.keep (Ag.of s1 (by decide)) (Ag.of s2 (by decide)))).fo (fr_X7_gather I3 J4)) (fun r I5 J5 _ hP => ?_)
      obtain ⟨⟨q1, q2⟩, q3, q4⟩ := hP
      simp only at q1 q2 q3 q4
      rw [← hCe] at q1
      have hX5 : XB B I5 J5 := hX3.keep (Ag.of q3 (by decide)) (Ag.of q4 (by decide))
      have hR5 : rfQ B I5 J5 := ⟨hR.1.keep (Ag.of q3 (by decide)) (Ag.of q4 (by decide)), by rw [q3 _ _ rfl]; exact hR.2.1, q2⟩
      rw [q1.1]
      by_cases c0 : C.length = 0
      · rw [if_pos c0, if_pos c0]
        refine Ok.t (by rw [c0]; rfl) (Ok.mk ⟨rfl, hR5.tab, hR5.2.2, ?_, ?_⟩) <;> dsimp only
        · rw [q3 _ _ rfl, s1 _ _ rfl]
        · funext k; rw [q4 _ _ rfl, s2 _ _ rfl]
      · rw [if_neg c0, if_neg c0]
        refine Ok.f (fun hh => c0 ((n_eq (b := 0) (by omega) (by omega)).mp hh)) (Ok.lbv ?_)
        rw [nI_1]
        refine X11_next_L hB hCl hC (by omega) (fun I6 J6 hX6 hR6 => ?_) bgf 0 (Nat.zero_le _) (by unfold bgf; omega) I5 J5 hX5 hR5 q1
        refine clr1 (fun I7 c1 c2 => ?_)
        refine add1 c1 (by simp) (fun I8 J8 d1 d2 d3 => ?_)
        exact Ok.mk ⟨rfl, ((hR6.k1 c2 Sm.rf).k1 d2 d3).tab, ((hR6.k1 c2 Sm.rf).k1 d2 d3).2.2, d1⟩
    · intro I1 J1 hM hMo u1 u2
      have sT := th_s I1 0
      have hM2 : MB B (ui I1 m_self f_Model_thrown 0) := hM.keep (Ag.of sT (by decide))
      unfold F_X12_next
      refine Ok.lbv (Ok.cpe ((X12_can hB _ _ hM2).1 hW) (Ok.f (by decide) (?_)))
      have hMo2 : CMod (ui I1 m_self f_Model_thrown 0) := hMo.keep (Ag.of sT (by decide))
      refine Ok.call ((X12_agreed hB _ J1 hM2 hMo2 (hSm.keep (Ag.two u1 sT (by decide) (by decide)) (Ag.of u2 (by decide)))).fo (fr_X12_findAgreed _ J1)) (fun r I5 J5 _ hP => ?_)
      obtain ⟨q1, q3, q4⟩ := hP
      simp only at q1 q3 q4
      rw [← hCe] at q1
      have hM5 : MB B I5 := hM2.keep (Ag.of q3 (by decide))
      have hMo5 : CMod I5 := hMo2.keep (Ag.of q3 (by decide))
      rw [q1.1]
      by_cases c0 : C.length = 0
      · rw [if_pos c0, if_pos c0]
        exact Ok.t (by rw [c0]; rfl) (Ok.mk ⟨rfl, hMo5, toM_2 sT q3 q4 (by decide) (by decide) (by decide)⟩)
      · rw [if_neg c0, if_neg c0]
        refine Ok.f (fun hh => c0 ((n_eq (b := 0) (by omega) (by omega)).mp hh)) (Ok.cpe (X12_settings _ hW hM5.1) ?_)
        refine X12_next_36 hB hW hCl hC (fun I6 J6 hM6 hMo6 hA6 hg6 => ?_) bgf 0 (Nat.zero_le _) (by unfold bgf; omega) I5 J5 hM5 hMo5 q1 (fun s hs j hj => by omega)
        refine X12_next_101 hC hp hA6 hg6 ?_ bgf 0 (Nat.zero_le _) (by unfold bgf; omega)
        have h3 : 0 < 3 ^ bW B := Nat.pow_pos (by omega)
        obtain ⟨j, j1, _⟩ := bsN_some (wsA B C) C.length (fun k => mxG_le _ _) h3
        have hv : bsV (bsN (wsA B C) C.length (3 ^ bW B)) = (bsN (wsA B C) C.length (3 ^ bW B)).1 := by unfold bsV; rw [j1]
        rw [hv]
        refine clrM (J := J6) (fun I7 c1 c2 => ?_)
        refine tel1 c1 (by simp) (fun I8 J8 d1 d2 d3 => ?_)
        exact Ok.mk ⟨rfl, (hMo6.k1 c2).k1 d2, d1⟩
  · refine srch h (fr_X11_next I J) (fun I1 J1 => fr_X12_next I1 J1) (by decide) (-3) none ?_ ?_
    · unfold F_X11_next
      exact noX hB hW hX (Ok.mk ⟨rfl, hTF.1, hTF.2.1, rfl, rfl⟩)
    · intro I1 J1 hM hMo u1 u2
      have sT := th_s I1 0
      have hM2 : MB B (ui I1 m_self f_Model_thrown 0) := hM.keep (Ag.of sT (by decide))
      unfold F_X12_next
      exact Ok.lbv (Ok.cpe ((X12_can hB _ _ hM2).2 hW) (Ok.t (by decide) (Ok.mk ⟨rfl, hMo.keep (Ag.of sT (by decide)), toM_o sT (Sm.rf (w := [])) (by decide) (by decide)⟩)))

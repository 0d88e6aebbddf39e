/-! LAYER 2: the reference's begin, shine, glowing (3) -/
def hbM (k a b : Nat) (h : Nat → Bool) (v : Nat) : Bool := if k = 1 then (h v && !decide (v = a)) else hiE k a b h v
def bgQ (B : Bd) (k a b : Nat) (h l : Int32) (q : Int32 × HI × HJ) : Prop :=
  (cfl k a b (bi h) (bi l) = true → q.1 = nI 0) ∧ (cfl k a b (bi h) (bi l) = false → q.1 = nI 1 ∧ (∀ v, v < 32 → bi (q.2.1 m_self f_Model_high) v = hbM k a b (bi h) v) ∧ (∀ v, v < 32 → bi (q.2.1 m_self f_Model_low) v = hbM k a b (bi l) v) ∧ (k = 2 → q.2.1 m_self f_Model_ohmsTouch = nI (ohE B k a b (bi h) (bi l) a)))
theorem X12_begin {B : Bd} (hB : OkB B) {k a b : Nat} (hk : okK B k a b) (h l : Int32) (I : HI) (J : HJ) (hM : MB B I) (hld : ldM B k a b I) : Ok (F_X12_begin h l I J) (bgQ B k a b h l) := by
  have hW := hB.2.1
  have h60 := hB.2.2.1
  have hk3 : k ≤ 3 := by rcases hk with h | h | h | h <;> omega
  obtain ⟨l1, l2, l3⟩ := hld
  unfold F_X12_begin
  refine Ok.lbv ?_
  refine Ok.lbv ?_
  generalize hI : ui (ui I m_self f_Model_high h) m_self f_Model_low l = I1
  have s1 : Sm [(m_self, some f_Model_high), (m_self, some f_Model_low)] I I1 := by rw [← hI]; exact Sm.mi rfl (Sm.mi rfl Sm.rf)
  have e1 : I1 m_self f_Model_high = h := by rw [← hI, ui_j (by decide), ui_r]
  have e2 : I1 m_self f_Model_low = l := by rw [← hI, ui_r]
  have ek : I1 m_self f_Model_laidKind = nI k := by rw [s1 _ _ rfl]; exact l1
  refine Ok.jn (fun j => ∀ I2, Sm [(m_self, some f_Model_high), (m_self, some f_Model_low)] I I2 → (k = 2 → I2 = I1) → (k ≠ 2 → (∀ v, v < 32 → bi (I2 m_self f_Model_high) v = hbM k a b (bi h) v) ∧ (∀ v, v < 32 → bi (I2 m_self f_Model_low) v = hbM k a b (bi l) v)) → Ok (j I2) (bgQ B k a b h l)) ?_ ?_
  · intro I2 s2 p1 p2
    have ek2 : I2 m_self f_Model_laidKind = nI k := by rw [s2 _ _ rfl]; exact l1
    by_cases c2 : k = 2
    · have p1 := p1 c2
      subst p1
      obtain ⟨hab, hb⟩ : a < b ∧ b < bW B := by rcases hk with h | h | h | h <;> omega
      have ea : I2 m_self f_Model_laidA = nI a := by rw [s1 _ _ rfl]; exact l2 (by omega)
      have eb : I2 m_self f_Model_laidB = nI b := by rw [s1 _ _ rfl]; exact l3 c2
      have hM1 : MB B I2 := hM.keep (Ag.of s1 (by decide))
      refine Ok.t (show I2 m_self f_Model_laidKind = 2 by rw [ek2, c2]; rfl) ?_
      rw [ea, eb]
      refine Ok.cpe (t_hasI (by omega)) ?_
      refine Ok.cpe (t_hasI (by omega)) ?_
      have hcf : cfl k a b (bi h) (bi l) = ((bi h a && bi l b) || (bi l a && bi h b)) := by unfold cfl; rw [c2]; simp
      have conf : cfl k a b (bi h) (bi l) = true → Ok (some ((0 : Int32), I2, J)) (bgQ B k a b h l) := fun hc => Ok.mk ⟨fun _ => rfl, fun h0 => by rw [hc] at h0; cases h0⟩
      refine Ok.jn (fun j => (bi h a && bi l b) = false → Ok j (bgQ B k a b h l)) ?_ ?_
      · intro n1
        refine Ok.cpe (t_hasI (by omega)) ?_
        refine Ok.jn (fun j => (bi l a && bi h b) = false → Ok j (bgQ B k a b h l)) ?_ ?_
        · intro n2
          have hc : cfl k a b (bi h) (bi l) = false := by rw [hcf, n1, n2]; rfl
          refine Ok.jn (fun j => ∀ y, y < 10 → bO B y = ohE B k a b (bi h) (bi l) a → Ok (j (nI y)) (bgQ B k a b h l)) ?_ ?_
          · intro y hy hoy
            refine Ok.bxe hy (by omega) ?_
            refine Ok.lbv ?_
            rw [n_cl (by omega), hM1.2.2.2.2.2.1 y hy, hoy]
            generalize hI3 : ui I2 m_self f_Model_ohmsTouch (nI (ohE B k a b (bi h) (bi l) a)) = I3
            have t3 : Sm [(m_self, some f_Model_ohmsTouch)] I2 I3 := by rw [← hI3]; exact Sm.mi rfl Sm.rf
            have o3 : I3 m_self f_Model_ohmsTouch = nI (ohE B k a b (bi h) (bi l) a) := by rw [← hI3, ui_r]
            have a3 : I3 m_self f_Model_laidA = nI a := by rw [t3 _ _ rfl]; exact ea
            have b3 : I3 m_self f_Model_laidB = nI b := by rw [t3 _ _ rfl]; exact eb
            rw [b3, a3]
            refine Ok.cpe (t_hasI (by omega)) ?_
            refine Ok.jn (fun j => ∀ I4, Sm [(m_self, some f_Model_high)] I3 I4 → (∀ v, v < 32 → bi (I4 m_self f_Model_high) v = (bi h v || (decide (v = a) && bi h b))) → Ok (j I4) (bgQ B k a b h l)) ?_ ?_
            · intro I4 t4 h4
              have a4 : I4 m_self f_Model_laidA = nI a := by rw [t4 _ _ rfl]; exact a3
              have b4 : I4 m_self f_Model_laidB = nI b := by rw [t4 _ _ rfl]; exact b3
              have lo4 : I4 m_self f_Model_low = l := by rw [t4 _ _ rfl, t3 _ _ rfl]; exact e2
              rw [b4, a4]
              refine Ok.cpe (t_hasI (by omega)) ?_
              refine Ok.jn (fun j => ∀ I5, Sm [(m_self, some f_Model_low)] I4 I5 → (∀ v, v < 32 → bi (I5 m_self f_Model_low) v = (bi l v || (decide (v = a) && bi l b))) → Ok (j I5) (bgQ B k a b h l)) ?_ ?_
              · intro I5 t5 h5
                have b5 : I5 m_self f_Model_laidB = nI b := by rw [t5 _ _ rfl]; exact b4
                have hi5 : I5 m_self f_Model_high = I4 m_self f_Model_high := t5 _ _ rfl
                refine Ok.lbv ?_
                refine Ok.lbv ?_
                refine Ok.mk ⟨(fun h0 => by rw [hc] at h0; cases h0), fun _ => ⟨rfl, fun v hv => ?_, fun v hv => ?_, fun _ => ?_⟩⟩
                · dsimp only
                  rw [ui_j (by decide), ui_r, hi5, b5, lit32, bi_and, h4 v hv, bi_nt hv, t_ione (by omega)]
                  unfold hbM hiE
                  rw [if_neg (by omega), if_pos c2]
                  by_cases d1 : v = b
                  · simp [d1]
                  · by_cases d2 : v = a
                    · have : ¬ a = b := by omega
                      simp [d2, this]
                    · simp [d1, d2]
                · dsimp only
                  rw [ui_r, ui_j (by decide), ui_j (by decide), b5, lit32, bi_and, h5 v hv, bi_nt hv, t_ione (by omega)]
                  unfold hbM hiE
                  rw [if_neg (by omega), if_pos c2]
                  by_cases d1 : v = b
                  · simp [d1]
                  · by_cases d2 : v = a
                    · have : ¬ a = b := by omega
                      simp [d2, this]
                    · simp [d1, d2]
                · dsimp only
                  rw [ui_j (by decide), ui_j (by decide), t5 _ _ rfl, t4 _ _ rfl]; exact o3
              · intro j hj
                refine Ok.it0 rfl (fun c => ?_) (fun c => ?_)
                · exact hj I4 Sm.rf (fun v hv => by rw [lo4, c]; simp)
                · refine Ok.lbv ?_
                  refine hj _ (Sm.mi rfl Sm.rf) (fun v hv => ?_)
                  rw [ui_r, lo4, lit32, bi_or, t_ione (by omega), c]; simp
            · intro j hj
              refine Ok.it0 rfl (fun c => ?_) (fun c => ?_)
              · exact hj I3 Sm.rf (fun v hv => by rw [t3 _ _ rfl, e1, c]; simp)
              · refine Ok.lbv ?_
                refine hj _ (Sm.mi rfl Sm.rf) (fun v hv => ?_)
                rw [ui_r, t3 _ _ rfl, e1, lit32, bi_or, t_ione (by omega), c]; simp
          · intro j hj
            refine Ok.it0 rfl (fun c => ?_) (fun c => ?_)
            · rw [bi_or] at c
              refine hj b (by omega) ?_
              unfold ohE; rw [if_pos ⟨c2, rfl, c⟩]
            · rw [bi_or] at c
              refine hj a (by omega) ?_
              unfold ohE; rw [if_neg (fun hh => by rw [c] at hh; exact absurd hh.2.2 (by simp))]
        · intro j hj
          refine Ok.it0 rfl (fun c => hj (by rw [c]; rfl)) (fun c => ?_)
          refine Ok.cpe (t_hasI (by omega)) ?_
          refine Ok.it0 rfl (fun d => hj (by rw [d]; simp)) (fun d => ?_)
          exact conf (by rw [hcf, c, d]; simp)
      · intro j hj
        refine Ok.it0 rfl (fun c => hj (by rw [c]; rfl)) (fun c => ?_)
        refine Ok.cpe (t_hasI (by omega)) ?_
        refine Ok.it0 rfl (fun d => hj (by rw [d]; simp)) (fun d => ?_)
        exact conf (by rw [hcf, c, d]; simp)
    · have hc : cfl k a b (bi h) (bi l) = false := by unfold cfl; simp [c2]
      refine Ok.f (show ¬ I2 m_self f_Model_laidKind = 2 by
        rw [ek2]; intro hh
        have hh' : nI k = nI 2 := hh
        rw [n_eq (by omega) (by omega)] at hh'; omega) ?_
      obtain ⟨g1, g2⟩ := p2 c2
      exact Ok.mk ⟨(fun h0 => by rw [hc] at h0; cases h0), fun _ => ⟨rfl, g1, g2, fun h0 => absurd h0 c2⟩⟩
  · intro j hj
    by_cases c1 : k = 1
    · have ea : I1 m_self f_Model_laidA = nI a := by rw [s1 _ _ rfl]; exact l2 (by omega)
      refine Ok.t (show I1 m_self f_Model_laidKind = 1 by rw [ek, c1]; rfl) ?_
      refine Ok.lbv ?_
      refine Ok.lbv ?_
      have ha : a < bW B := by rcases hk with h | h | h | h <;> omega
      refine hj _ (Sm.mi rfl (Sm.mi rfl s1)) (fun h0 => by omega) (fun _ => ⟨fun v hv => ?_, fun v hv => ?_⟩)
      · rw [ui_j (by decide), ui_r, e1, ea, lit32, bi_and, bi_nt hv, t_ione (by omega)]
        unfold hbM; rw [if_pos c1]
      · rw [ui_r, ui_j (by decide), ui_j (by decide), e2, ea, lit32, bi_and, bi_nt hv, t_ione (by omega)]
        unfold hbM; rw [if_pos c1]
    · refine Ok.f (show ¬ I1 m_self f_Model_laidKind = 1 by
        rw [ek]; intro hh
        have hh' : nI k = nI 1 := hh
        rw [n_eq (by omega) (by omega)] at hh'; omega) ?_
      refine hj I1 s1 (fun _ => rfl) (fun c2 => ⟨fun v _ => ?_, fun v _ => ?_⟩)
      · rw [e1]; unfold hbM hiE; rw [if_neg c1, if_neg c2]
      · rw [e2]; unfold hbM hiE; rw [if_neg c1, if_neg c2]

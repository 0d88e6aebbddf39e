/-! LAYER 2: the class's join -/
theorem jn_e (B : Bd) (a b w v k : Nat) (hab : a ≠ b) (hk : k < bL B) (hne : bA B k ≠ bG B k) :
    ((if w = b then false else if w = a then ((decide (bA B k = a) || decide (bA B k = b)) && !((decide (bA B k = a) && decide (bG B k = b)) || (decide (bA B k = b) && decide (bG B k = a)))) else decide (bA B k = w)) && (if v = b then false else if v = a then ((decide (bG B k = a) || decide (bG B k = b)) && !((decide (bA B k = a) && decide (bG B k = b)) || (decide (bA B k = b) && decide (bG B k = a)))) else decide (bG B k = v))) = decide (ed B 2 a b k = some (w, v)) := by
  generalize hA : bA B k = A at *
  generalize hG : bG B k = G at *
  have e : ed B 2 a b k = if (if A = b then a else A) = (if G = b then a else G) then none else some ((if A = b then a else A), (if G = b then a else G)) := by
    simp only [ed, hA, hG]; rfl
  rw [e]
  apply Bool.eq_iff_iff.mpr
  obtain ⟨f, hf⟩ : ∃ f, f = (if A = b then a else A) := ⟨_, rfl⟩
  obtain ⟨t, ht⟩ : ∃ t, t = (if G = b then a else G) := ⟨_, rfl⟩
  rw [← hf, ← ht]
  have hf' : (A = b ∧ f = a) ∨ (A ≠ b ∧ f = A) := by rw [hf]; split <;> omega
  have ht' : (G = b ∧ t = a) ∨ (G ≠ b ∧ t = G) := by rw [ht]; split <;> omega
  have hr : (decide ((if f = t then (none : Option (Nat × Nat)) else some (f, t)) = some (w, v)) = true) ↔ (f ≠ t ∧ f = w ∧ t = v) := by
    rw [decide_eq_true_eq]
    split
    · rename_i h; simp [h]
    · rename_i h; simp [h]
  rw [hr]
  clear hr e hA hG hf ht
  by_cases c1 : w = b
  · simp only [c1, if_true, Bool.false_and, Bool.false_eq_true, false_iff]; omega
  · by_cases c3 : v = b
    · simp only [c3, if_true, Bool.and_false, Bool.false_eq_true, false_iff]; omega
    · rw [if_neg c1, if_neg c3]
      by_cases c2 : w = a <;> by_cases c4 : v = a <;> simp only [c2, c4, if_true, if_false, Bool.and_eq_true, Bool.or_eq_true, Bool.not_eq_true', Bool.or_eq_false_iff, Bool.and_eq_false_iff, decide_eq_true_eq, decide_eq_false_iff_not] <;> omega
theorem ed2 {B : Bd} {a b k w v : Nat} (h : ed B 2 a b k = some (w, v)) : (if bA B k = b then a else bA B k) = w ∧ (if bG B k = b then a else bG B k) = v ∧ w ≠ v := by
  have e : ed B 2 a b k = if (if bA B k = b then a else bA B k) = (if bG B k = b then a else bG B k) then none else some ((if bA B k = b then a else bA B k), (if bG B k = b then a else bG B k)) := by
    simp only [ed]; rfl
  rw [e] at h
  generalize (if bA B k = b then a else bA B k) = X at *
  generalize (if bG B k = b then a else bG B k) = Y at *
  by_cases c : X = Y
  · rw [if_pos c] at h; cases h
  · rw [if_neg c] at h
    simp only [Option.some.injEq, Prod.mk.injEq] at h
    exact ⟨h.1, h.2, by omega⟩
theorem X1_join {B : Bd} (hB : OkB B) (a b : Nat) (ha : a < bW B) (hb : b < bW B) (hab : a ≠ b) (h l : Int32) (hd : ∀ w, (bi h w && bi l w) = false) (I : HI) (J : HJ) (hX : XB B I J) (hL : LA B h l I J) :
    Ok (F_X1_join (nI a) (nI b) I J) (fun q => if cfl 2 a b (bi h) (bi l) then q.2.1 x_flow f_Flow_high = nI 0 else FX B (ed B 2 a b) (hiE 2 a b (bi h)) (hiE 2 a b (bi l)) (ohE B 2 a b (bi h) (bi l)) q.2.1 q.2.2) := by
  obtain ⟨x1, x2, x3, x4, x5, x6, x7, x8⟩ := hX
  obtain ⟨l1, l2, l3, l4, l5, l6⟩ := hL
  have h60 := hB.2.2.1
  have hW := hB.2.1
  have hba : b ≠ a := Ne.symm hab
  unfold F_X1_join
  simp (disch := omega) only [lb, n_bx, n_cl, lit32, litL, both0, one0]
  generalize hJ : uj (uj (uj (uj J x_flow_out a _) x_flow_into a _) x_flow_out b (lN 0)) x_flow_into b (lN 0) = J29
  have hJo : ∀ w, w < bW B → ∀ k, k < bL B → bt (J29 x_flow_out w) k = (if w = b then false else if w = a then ((decide (bA B k = a) || decide (bA B k = b)) && !((decide (bA B k = a) && decide (bG B k = b)) || (decide (bA B k = b) && decide (bG B k = a)))) else decide (bA B k = w)) := by
    intro w hw k hk
    rw [← hJ, uj_c (by decide), uj_s]
    by_cases c1 : w = b
    · rw [if_pos c1, if_pos c1, bt_z]
    · rw [if_neg c1, if_neg c1, uj_c (by decide), uj_s]
      by_cases c2 : w = a
      · rw [if_pos c2, if_pos c2, bt_and, bt_nt (by omega), bt_or, bt_or, bt_and, bt_and, (l6 a ha k).1, (l6 b hb k).1, (l6 a ha k).2, (l6 b hb k).2]
        simp [hk]
      · rw [if_neg c2, if_neg c2, (l6 w hw k).1]; simp [hk]
  have hJi : ∀ w, w < bW B → ∀ k, k < bL B → bt (J29 x_flow_into w) k = (if w = b then false else if w = a then ((decide (bG B k = a) || decide (bG B k = b)) && !((decide (bA B k = a) && decide (bG B k = b)) || (decide (bA B k = b) && decide (bG B k = a)))) else decide (bG B k = w)) := by
    intro w hw k hk
    rw [← hJ, uj_s]
    by_cases c1 : w = b
    · rw [if_pos c1, if_pos c1, bt_z]
    · rw [if_neg c1, if_neg c1, uj_c (by decide), uj_s]
      by_cases c2 : w = a
      · rw [if_pos c2, if_pos c2]
        simp only [uj_c (show x_flow_into ≠ x_flow_out by decide)]
        rw [bt_and, bt_nt (by omega), bt_or, bt_or, bt_and, bt_and, (l6 a ha k).1, (l6 b hb k).1, (l6 a ha k).2, (l6 b hb k).2]
        simp [hk]
      · rw [if_neg c2, if_neg c2, uj_c (by decide), (l6 w hw k).2]; simp [hk]
  have hJz : ∀ w, w < bW B → ∀ k, ¬ k < bL B → (bt (J29 x_flow_out w) k && bt (J29 x_flow_into w) k) = false ∧ bt (J29 x_flow_out w) k = false := by
    intro w hw k hk
    have : bt (J29 x_flow_out w) k = false := by
      rw [← hJ, uj_c (by decide), uj_s]
      by_cases c1 : w = b
      · rw [if_pos c1, bt_z]
      · rw [if_neg c1, uj_c (by decide), uj_s]
        by_cases c2 : w = a
        · rw [if_pos c2, bt_and, bt_or, (l6 a ha k).1, (l6 b hb k).1]
          simp [hk]
        · rw [if_neg c2, (l6 w hw k).1]; simp [hk]
    rw [this]; simp
  have key : ∀ I17 y19 y22, Sm [(x_flow_ohms, none)] I I17 → (∀ w, w < bW B → I17 x_flow_ohms w = nI (ohE B 2 a b (bi h) (bi l) w)) → (∀ w, w < 32 → bi y19 w = hiE 2 a b (bi h) w) → (∀ w, w < 32 → bi y22 w = hiE 2 a b (bi l) w) →
      FX B (ed B 2 a b) (hiE 2 a b (bi h)) (hiE 2 a b (bi l)) (ohE B 2 a b (bi h) (bi l)) (ui (ui (ui (ui I17 x_flow f_Flow_high y19) x_flow f_Flow_low y22) x_flow f_Flow_joined (nI b)) x_flow f_Flow_joinedTo (nI a)) J29 := by
    intro I17 y19 y22 s1 k1 k2 k3
    generalize hI : ui (ui (ui (ui I17 x_flow f_Flow_high y19) x_flow f_Flow_low y22) x_flow f_Flow_joined (nI b)) x_flow f_Flow_joinedTo (nI a) = I31
    have sI : Sm [(x_flow, some f_Flow_high), (x_flow, some f_Flow_low), (x_flow, some f_Flow_joined), (x_flow, some f_Flow_joinedTo)] I17 I31 := by rw [← hI]; exact Sm.mi rfl (Sm.mi rfl (Sm.mi rfl (Sm.mi rfl Sm.rf)))
    have i1 : I31 x_flow f_Flow_high = y19 := by rw [← hI, ui_j (by decide), ui_j (by decide), ui_j (by decide), ui_r]
    have i2 : I31 x_flow f_Flow_low = y22 := by rw [← hI, ui_j (by decide), ui_j (by decide), ui_r]
    have i3 : I31 x_flow f_Flow_joined = nI b := by rw [← hI, ui_j (by decide), ui_r]
    have i4 : I31 x_flow f_Flow_joinedTo = nI a := by rw [← hI, ui_r]
    refine ⟨by rw [sI _ _ rfl, s1 _ _ rfl]; exact x1, by rw [sI _ _ rfl, s1 _ _ rfl]; exact x2, by rw [sI _ _ rfl, s1 _ _ rfl]; exact x3, by rw [sI _ _ rfl, s1 _ _ rfl]; exact x4, by rw [sI _ _ rfl, s1 _ _ rfl]; exact x5, fun k hk => by rw [sI _ _ rfl, s1 _ _ rfl]; exact (x7 k hk).2.2, fun w hw => by rw [sI _ _ rfl]; exact k1 w hw, fun k w v hk he => ?_, fun w hw v hv k => ?_, fun w hw => by rw [i1, i2]; exact ⟨k2 w (by omega), k3 w (by omega)⟩⟩
    · obtain ⟨w1, w2, _⟩ := hB.2.2.2.2.2.2.2.2.2 k hk
      have eg : gl0 I31 k = nI (bG B k) := by
        unfold gl0
        rw [sI x_flow f_Flow_turned rfl, s1 _ _ rfl, l3, if_neg (by rw [n_ne1 (by omega)]; simp), sI _ _ rfl, s1 _ _ rfl, (x7 k hk).2.1]
      unfold gl1
      rw [i3, i4, eg]
      simp (disch := omega) only [n_eq]
      rw [← (ed2 he).2.1]
      by_cases c : bG B k = b
      · rw [if_pos c, if_pos c]
      · rw [if_neg c, if_neg c]
    · by_cases c : k < bL B
      · rw [hJo w hw k c, hJi v hv k c, jn_e B a b w v k hab c (hB.2.2.2.2.2.2.2.2.2 k c).2.2.1]
        simp [c]
      · rw [(hJz w hw k c).2]; simp [c]
  have hcf : cfl 2 a b (bi h) (bi l) = true ↔ (¬ (bi h a = false ∧ bi h b = false) ∧ ¬ (bi l a = false ∧ bi l b = false)) := by
    unfold cfl
    have d1 := hd a
    have d2 := hd b
    revert d1 d2
    generalize bi h a = p1
    generalize bi h b = p2
    generalize bi l a = p3
    generalize bi l b = p4
    cases p1 <;> cases p2 <;> cases p3 <;> cases p4 <;> decide
  have hoh0 : bi (h ||| l) a = false → ∀ w, w < bW B → (ui I x_flow_ohms a (I x_flow_ohms b)) x_flow_ohms w = nI (ohE B 2 a b (bi h) (bi l) w) := by
    intro ho w hw
    rw [bi_or] at ho
    rw [ui_s]
    unfold ohE
    by_cases c : w = a
    · rw [if_pos c, l5 b hb, if_pos ⟨rfl, c, ho⟩]
    · rw [if_neg c, l5 w hw, if_neg (fun h => c h.2.1)]
  have hoh1 : ¬ bi (h ||| l) a = false → ∀ w, w < bW B → I x_flow_ohms w = nI (ohE B 2 a b (bi h) (bi l) w) := by
    intro ho w hw
    rw [bi_or] at ho
    unfold ohE
    rw [l5 w hw, if_neg (fun h => ho h.2.2)]
  have go : ¬ (¬ (bi h a = false ∧ bi h b = false) ∧ ¬ (bi l a = false ∧ bi l b = false)) → ∀ I17, Sm [(x_flow_ohms, none)] I I17 → (∀ w, w < bW B → I17 x_flow_ohms w = nI (ohE B 2 a b (bi h) (bi l) w)) →
      Ok (if bi (I17 x_flow f_Flow_high) a = false ∧ bi (I17 x_flow f_Flow_high) b = false then
            (if bi ((ui I17 x_flow f_Flow_high (I17 x_flow f_Flow_high)) x_flow f_Flow_low) a = false ∧ bi ((ui I17 x_flow f_Flow_high (I17 x_flow f_Flow_high)) x_flow f_Flow_low) b = false then
              some ((), ui (ui (ui (ui I17 x_flow f_Flow_high (I17 x_flow f_Flow_high)) x_flow f_Flow_low ((ui I17 x_flow f_Flow_high (I17 x_flow f_Flow_high)) x_flow f_Flow_low)) x_flow f_Flow_joined (nI b)) x_flow f_Flow_joinedTo (nI a), J29)
            else some ((), ui (ui (ui (ui I17 x_flow f_Flow_high (I17 x_flow f_Flow_high)) x_flow f_Flow_low (((ui I17 x_flow f_Flow_high (I17 x_flow f_Flow_high)) x_flow f_Flow_low &&& ((oshl (nI 1) (nI a) ||| oshl (nI 1) (nI b)) ^^^ (-nI 1))) ||| oshl (nI 1) (nI a))) x_flow f_Flow_joined (nI b)) x_flow f_Flow_joinedTo (nI a), J29))
          else
            (if bi ((ui I17 x_flow f_Flow_high ((I17 x_flow f_Flow_high &&& ((oshl (nI 1) (nI a) ||| oshl (nI 1) (nI b)) ^^^ (-nI 1))) ||| oshl (nI 1) (nI a))) x_flow f_Flow_low) a = false ∧ bi ((ui I17 x_flow f_Flow_high ((I17 x_flow f_Flow_high &&& ((oshl (nI 1) (nI a) ||| oshl (nI 1) (nI b)) ^^^ (-nI 1))) ||| oshl (nI 1) (nI a))) x_flow f_Flow_low) b = false then
              some ((), ui (ui (ui (ui I17 x_flow f_Flow_high ((I17 x_flow f_Flow_high &&& ((oshl (nI 1) (nI a) ||| oshl (nI 1) (nI b)) ^^^ (-nI 1))) ||| oshl (nI 1) (nI a))) x_flow f_Flow_low ((ui I17 x_flow f_Flow_high ((I17 x_flow f_Flow_high &&& ((oshl (nI 1) (nI a) ||| oshl (nI 1) (nI b)) ^^^ (-nI 1))) ||| oshl (nI 1) (nI a))) x_flow f_Flow_low)) x_flow f_Flow_joined (nI b)) x_flow f_Flow_joinedTo (nI a), J29)
            else some ((), ui (ui (ui (ui I17 x_flow f_Flow_high ((I17 x_flow f_Flow_high &&& ((oshl (nI 1) (nI a) ||| oshl (nI 1) (nI b)) ^^^ (-nI 1))) ||| oshl (nI 1) (nI a))) x_flow f_Flow_low (((ui I17 x_flow f_Flow_high ((I17 x_flow f_Flow_high &&& ((oshl (nI 1) (nI a) ||| oshl (nI 1) (nI b)) ^^^ (-nI 1))) ||| oshl (nI 1) (nI a))) x_flow f_Flow_low &&& ((oshl (nI 1) (nI a) ||| oshl (nI 1) (nI b)) ^^^ (-nI 1))) ||| oshl (nI 1) (nI a))) x_flow f_Flow_joined (nI b)) x_flow f_Flow_joinedTo (nI a), J29)))
        (fun q => if cfl 2 a b (bi h) (bi l) then q.2.1 x_flow f_Flow_high = nI 0 else FX B (ed B 2 a b) (hiE 2 a b (bi h)) (hiE 2 a b (bi l)) (ohE B 2 a b (bi h) (bi l)) q.2.1 q.2.2) := by
    intro hn I17 s1 k1
    have hc : cfl 2 a b (bi h) (bi l) = false := by
      cases hq : cfl 2 a b (bi h) (bi l) with
      | false => rfl
      | true => exact absurd (hcf.mp hq) hn
    rw [hc]
    have e1 : I17 x_flow f_Flow_high = h := by rw [s1 _ _ rfl]; exact l1
    have e2 : ∀ y, (ui I17 x_flow f_Flow_high y) x_flow f_Flow_low = l := fun y => by rw [ui_j (by decide), s1 _ _ rfl]; exact l2
    simp only [e1, e2, Bool.false_eq_true, if_false]
    refine Ok.ite (fun c1 => Ok.ite (fun c2 => Ok.mk ?_) (fun c2 => Ok.mk ?_)) (fun c1 => Ok.ite (fun c2 => Ok.mk ?_) (fun c2 => Ok.mk ?_))
    · exact key I17 _ _ s1 k1 (fun w _ => jn_0 c1) (fun w _ => jn_0 c2)
    · exact key I17 _ _ s1 k1 (fun w _ => jn_0 c1) (fun w hw => jn_1 (by omega) (by omega) hab hw c2)
    · exact key I17 _ _ s1 k1 (fun w hw => jn_1 (by omega) (by omega) hab hw c1) (fun w _ => jn_0 c2)
    · exact key I17 _ _ s1 k1 (fun w hw => jn_1 (by omega) (by omega) hab hw c1) (fun w hw => jn_1 (by omega) (by omega) hab hw c2)
  refine Ok.ite (fun c1 => ?_) (fun c1 => Ok.ite (fun c2 => ?_) (fun c2 => ?_))
  · rw [l1] at c1
    refine Ok.ite (fun c3 => ?_) (fun c3 => ?_) <;> rw [l1, l2] at c3
    · exact go (fun hh => hh.1 c1) _ (Sm.mi rfl Sm.rf) (hoh0 c3)
    · exact go (fun hh => hh.1 c1) _ Sm.rf (hoh1 c3)
  · rw [l2] at c2
    refine Ok.ite (fun c3 => ?_) (fun c3 => ?_) <;> rw [l1, l2] at c3
    · exact go (fun hh => hh.2 c2) _ (Sm.mi rfl Sm.rf) (hoh0 c3)
    · exact go (fun hh => hh.2 c2) _ Sm.rf (hoh1 c3)
  · rw [l1] at c1
    rw [l2] at c2
    refine Ok.mk ?_
    dsimp only
    rw [hcf.mpr ⟨c1, c2⟩, if_pos rfl, ui_r]

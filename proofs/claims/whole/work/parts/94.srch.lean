/-! LAYER 2: searching calls: shows, most, fits, alone, never -/
def toX (ro : Option (List Int64)) (I0 : HI) (J0 : HJ) (I : HI) (J : HJ) : Prop := match ro with | none => I x_told f_Told_size = I0 x_told f_Told_size ∧ J x_told_numbers = J0 x_told_numbers | some xs => tX xs I J
def toM (ro : Option (List Int64)) (I0 : HI) (J0 : HJ) (I : HI) (J : HJ) : Prop := match ro with | none => I m_self f_Model_rowMany = I0 m_self f_Model_rowMany ∧ J m_row = J0 m_row | some xs => tM xs I J
def sd (wi wj vi vj : Pl) : Bool := dd rdXBi rdXBj wi wj vi vj && dd rdMB [] wi wj vi vj && dd rdText [] wi wj vi vj && dd rdNi rdNj wi wj vi vj && dd rdPi [] wi wj vi vj && dd rdK0i rdK0j wi wj vi vj && dd rdK1i rdK1j wi wj vi vj && dd [(m_self, some f_Model_boards)] [] wi wj vi vj && (disW rdTbi vi && disW rdTbj vj && disW [(x_flow, some f_Flow_watched)] vi && disW [(x_flow, some f_Flow_lit), (x_flow_light, none)] vj && disW rdMB wi && disW rdMo wi && disW [(x_told, some f_Told_size)] vi && disW [(x_told_numbers, none)] vj && disW [(m_self, some f_Model_rowMany)] wi && disW [(m_row, none)] wj)
theorem srch {τ : Type} {n : Nat} {b : Bool} {I : HI} {J : HJ} {B : Bd} {nb : Nat} (h : IV (n + 1) B nb I J) {fX : Option (τ × HI × HJ)} {fM : HI → HJ → Option (τ × HI × HJ)} {wi wj vi vj : Pl} (frX : Fo wi wj I J fX) (frM : ∀ I1 J1, Fo vi vj I1 J1 (fM I1 J1)) (d : sd wi wj vi vj = true) (r : τ) (ro : Option (List Int64))
    (hX : Ok fX (fun q => q.1 = r ∧ CTab B q.2.1 q.2.2 ∧ CFlow q.2.1 q.2.2 ∧ toX ro I J q.2.1 q.2.2))
    (hM : ∀ I1 J1, MB B I1 → CMod I1 → Sm wi I I1 → Sm wj J J1 → Ok (fM I1 J1) (fun q => q.1 = r ∧ CMod q.2.1 ∧ toM ro I1 J1 q.2.1 q.2.2)) :
    ∃ r I1 J1 I2 J2, fX = some (r, I1, J1) ∧ fM I1 J1 = some (r, I2, J2) ∧ Iv n b I2 J2 := by
  unfold sd at d
  simp only [Bool.and_eq_true] at d
  obtain ⟨⟨⟨⟨⟨⟨⟨⟨d1, d2⟩, d3⟩, d4⟩, d5⟩, d6⟩, d7⟩, d8⟩, ⟨⟨⟨⟨⟨⟨⟨⟨⟨e1, e2⟩, e3⟩, e4⟩, e5⟩, e6⟩, e7⟩, e8⟩, e9⟩, e10⟩⟩ := d
  refine bothF hX frX frM (fun r' I1 J1 hP s1 s2 => ?_)
  obtain ⟨p1, p2, p3, p4⟩ := hP
  simp only at p1 p2 p3 p4
  refine (hM I1 J1 (h.2.2.1.keep (Ag.of s1 e5)) (h.2.2.2.2.2.2.2.2.2.2.2.1.keep (Ag.of s1 e6)) s1 s2).mono (fun q hq => ⟨by rw [hq.1, p1], fun t1 t2 => ?_⟩)
  obtain ⟨q1, q2, q3⟩ := hq
  obtain ⟨kX, kM, kTx, kN, _, kP, k0, k1, _, _, _, kB⟩ := IV_k h s1 s2 t1 t2
  refine ⟨B, nb, h.1, kX d1, kM d2, kTx d3, kN d4, ?_, kP d5, k0 d6, k1 d7, p2.keep (Ag.of t1 e1) (Ag.of t2 e2), p3.keep (Ag.of t1 e3) (Ag.of t2 e4), q2, kB d8⟩
  cases ro with
  | none =>
    obtain ⟨n', h1, h2, h3, h4⟩ := h.2.2.2.2.2.1
    refine ⟨n', h1, ?_, ?_, fun k hk => ?_⟩
    · rw [Ag.of t1 e7 _ _ rfl, p4.1]; exact h2
    · rw [q3.1, Ag.of s1 e9 _ _ rfl]; exact h3
    · rw [q3.2, Ag.of s2 e10 _ _ rfl, Ag.of t2 e8 x_told_numbers k rfl, p4.2]; exact h4 k hk
  | some xs => exact CTold.of (tX.keep p4 (Ag.of t1 e7) (Ag.of t2 e8)) q3
/-- the table is opened -/
theorem openX {α : Type} {B : Bd} (hB : OkB B) (hW : bW B ≤ 7) {I : HI} {J : HJ} (hX : XB B I J) (hT : CTab B I J) (hF : CFlow I J) {N : HI → HJ → Option α} {G : HI → HJ → Option α} {Q : α → Prop} (k : ∀ I3 J4, XB B I3 J4 → rfQ B I3 J4 → Sm wi_X11_openTable I I3 → Sm wj_X11_openTable J J4 → Ok (G I3 J4) Q) : Ok (cl (F_X11_openTable I J) fun r I3 J4 => if r = 0 then N I3 J4 else G I3 J4) Q := by
  refine Ok.call ((X11_open hB hW I J hX hT hF).fo (fr_X11_openTable I J)) (fun r I3 J4 _ hP => ?_)
  obtain ⟨⟨q1, q2⟩, q3, q4⟩ := hP
  simp only at q1 q2 q3 q4
  refine Ok.f (show ¬ r = 0 by rw [q1]; decide) ?_
  exact k I3 J4 (hX.keep (Ag.of q3 (by decide)) (Ag.of q4 (by decide))) q2 q3 q4
theorem noX {α : Type} {B : Bd} (hB : OkB B) (hW : ¬ bW B ≤ 7) {I : HI} {J : HJ} (hX : XB B I J) {N : HI → HJ → Option α} {G : HI → HJ → Option α} {Q : α → Prop} (k : Ok (N I J) Q) : Ok (cl (F_X11_openTable I J) fun r I3 J4 => if r = 0 then N I3 J4 else G I3 J4) Q := by
  refine Ok.cle (X11_noopen hB hW I J hX) (Ok.t (by decide) k)
theorem allM {α : Type} {B : Bd} (hB : OkB B) (hW : bW B ≤ 7) {I : HI} {J : HJ} (hM : MB B I) (hMo : CMod I) {G : HI → HJ → Option α} {Q : α → Prop} (k : ∀ I3 J4, MB B I3 → CMod I3 → faQ B I3 J4 → F_X12_settings I3 J4 = some (nI (3 ^ bW B)) → Sm wi_X12_findAll I I3 → Sm wj_X12_findAll J J4 → Ok (G I3 J4) Q) : Ok (cl (F_X12_findAll I J) fun _ I3 J4 => G I3 J4) Q := by
  refine Ok.call ((X12_findAll hB hW I J hM hMo).fo (fr_X12_findAll I J)) (fun r I3 J4 _ hP => ?_)
  obtain ⟨q1, q3, q4⟩ := hP
  simp only at q1 q3 q4
  have hM3 : MB B I3 := hM.keep (Ag.of q3 (by decide))
  exact k I3 J4 hM3 (hMo.keep (Ag.of q3 (by decide))) q1 (X12_settings _ hW hM3.1) q3 q4
theorem toX_o {I0 I : HI} {J0 J : HJ} {wi wj : Pl} (s1 : Sm wi I0 I) (s2 : Sm wj J0 J) (d1 : disW [(x_told, some f_Told_size)] wi = true) (d2 : disW [(x_told_numbers, none)] wj = true) : toX none I0 J0 I J := ⟨Ag.of s1 d1 _ _ rfl, (Ag.of s2 d2).c (fun _ => rfl)⟩
theorem toM_o {I0 I : HI} {J0 J : HJ} {wi wj : Pl} (s1 : Sm wi I0 I) (s2 : Sm wj J0 J) (d1 : disW [(m_self, some f_Model_rowMany)] wi = true) (d2 : disW [(m_row, none)] wj = true) : toM none I0 J0 I J := ⟨Ag.of s1 d1 _ _ rfl, (Ag.of s2 d2).c (fun _ => rfl)⟩
theorem toM_2 {I0 I1 I : HI} {J0 J : HJ} {vi wi wj : Pl} (s0 : Sm vi I0 I1) (s1 : Sm wi I1 I) (s2 : Sm wj J0 J) (d0 : disW [(m_self, some f_Model_rowMany)] vi = true) (d1 : disW [(m_self, some f_Model_rowMany)] wi = true) (d2 : disW [(m_row, none)] wj = true) : toM none I0 J0 I J := ⟨by rw [Ag.of s1 d1 _ _ rfl, Ag.of s0 d0 _ _ rfl], (Ag.of s2 d2).c (fun _ => rfl)⟩
/-- several numbers told -/
def addX : List Int64 → HI → HJ → Option (Unit × HI × HJ)
  | [], I, J => some ((), I, J)
  | v :: vs, I, J => cl (F_X10_add v I J) fun _ I J => addX vs I J
-- never, alone, fits: no row
def isT (B : Bd) (p : Int64) (s : Nat) : Bool := clS B s && !decide (gS B 0 s = lN 0) && decide (gS B 0 s &&& (p ^^^ (-lN 1)) = lN 0)
theorem X8_turn {B : Bd} {I : HI} {J : HJ} (h : tabOk B I J) (p : Int64) (s : Nat) (hs : s < 3 ^ bW B) : F_X8_isTurn (nI s) p I J = some (b1 (isT B p s)) := by
  have hp := p3_le h.1
  obtain ⟨g1, g2⟩ := h.2.2.1 s hs
  unfold F_X8_isTurn isT
  simp (disch := omega) only [n_bx, n_cl, lit32, litL, cm0, g1, g2, b1_0]
  cases clS B s with
  | false => rw [if_pos rfl]; rfl
  | true =>
    rw [if_neg (by simp)]
    by_cases c : gS B 0 s = lN 0
    · rw [if_pos c]; simp [c]; rfl
    · rw [if_neg c]
      by_cases e : gS B 0 s &&& (p ^^^ (-lN 1)) = lN 0
      · rw [if_pos e]; simp [c, e]; rfl
      · rw [if_neg e]; simp [c, e]; rfl
theorem X12_turn {B : Bd} (hW : bW B ≤ 7) {I : HI} {J : HJ} (h : faQ B I J) (p : Int64) (s : Nat) (hs : s < 3 ^ bW B) : F_X12_isTurn (nI s) p I J = some (b1 (isT B p s)) := by
  have hp := p3_le hW
  obtain ⟨g1, g2⟩ := h s hs
  unfold F_X12_isTurn isT
  simp (disch := omega) only [n_bx, n_cl, lit32, litL, cm0, g1, g2, b1_0]
  by_cases c : gS B 0 s = lN 0
  · rw [if_pos c]; simp [c]; rfl
  · rw [if_neg c]
    by_cases e : gS B 0 s &&& (p ^^^ (-lN 1)) = lN 0
    · rw [if_pos e]
      cases clS B s <;> simp [c, e] <;> rfl
    · rw [if_neg e]; simp [c, e]; rfl
def nvS (B : Bd) (p : Int64) (i : Nat) : Int64 := (List.range i).foldl (fun x s => if isT B p s then x &&& (gS B 0 s ^^^ (-lN 1)) else x) p
theorem nvS_s (B : Bd) (p : Int64) (i : Nat) : nvS B p (i + 1) = if isT B p i then nvS B p i &&& (gS B 0 i ^^^ (-lN 1)) else nvS B p i := by
  unfold nvS; rw [List.range_succ, List.foldl_append]; rfl
theorem z3 : (3 : Int64) = lN (4 - 1) := rfl
theorem OP26 (n : Nat) (b : Bool) (I : HI) (J : HJ) (a1 a2 a3 a4 : Int32) (h : Iv (n + 1) b I J) : Op26 (Iv n) b I J a1 a2 a3 a4 := by
  obtain ⟨B, nb, h⟩ := h
  have hB := h.1
  have hX := h.2.1
  have hTF := h.2.2.2.2.2.2.2.2.2
  rcases i_case a1 4 (by omega) with ⟨i, hi, rfl⟩ | ⟨hn, _⟩
  · by_cases hW : bW B ≤ 7
    · have hp := p3_le hW
      refine srch h (fr_X11_never (nI i) I J) (fun I1 J1 => fr_X12_never (nI i) I1 J1) (by decide) (nvS B (J x_notes_pictures i) (3 ^ bW B)) none ?_ ?_
      · unfold F_X11_never
        refine Ok.cpe (X11_isPic.1 ⟨i, hi, rfl⟩) (Ok.f (by decide) (openX hB hW hX hTF.1 hTF.2.1 (fun I3 J4 hX3 hR s1 s2 => ?_)))
        refine Ok.bxe (by omega) (by omega) (Ok.lbv ?_)
        rw [n_cl (by omega), s2 x_notes_pictures _ rfl]
        have hl : ∀ K k, k ≤ 3 ^ bW B → 3 ^ bW B - k < K → F_X11_never_L38 (J x_notes_pictures i) I3 J4 K (nvS B (J x_notes_pictures i) k) (nI k) = some (nvS B (J x_notes_pictures i) (3 ^ bW B), I3, J4) := by
          refine up ?_ ?_
          · intro K
            rw [F_X11_never_L38, if_pos (by rw [hR.1.2.1, n_le] <;> omega)]
          · intro K k hk ih
            rw [F_X11_never_L38, if_neg (by rw [hR.1.2.1, n_le] <;> omega), X8_turn hR.1 _ k hk]
            rw [nvS_s] at ih
            simp (disch := omega) only [cp, Option.bind_some, lb, lit32, litL, b1_0, n_bx, n_cl, (hR.1.2.2.1 k hk).1, nI_1, nI_add]
            cases hc : isT B (J x_notes_pictures i) k with
            | false => rw [hc, if_neg (by simp)] at ih; rw [if_pos rfl]; exact ih
            | true => rw [hc, if_pos rfl] at ih; rw [if_neg (by simp)]; exact ih
        exact ⟨_, hl bgf 0 (Nat.zero_le _) (by unfold bgf; omega), rfl, hR.tab, hR.2.2, toX_o s1 s2 (by decide) (by decide)⟩
      · intro I1 J1 hM hMo s1 s2
        have sT := th_s I1 0
        have hM2 : MB B (ui I1 m_self f_Model_thrown 0) := hM.keep (Ag.of sT (by decide))
        unfold F_X12_never
        refine Ok.lbv (Ok.cpe ((in_c (n := 4) (by omega) (by omega)).1 ⟨i, hi, rfl⟩ : F_X12_in (Int32.toInt64 (nI i)) 0 3 = _) (Ok.f (by decide) (Ok.cpe ((X12_can hB _ _ hM2).1 hW) (Ok.f (by decide) (allM hB hW hM2 (hMo.keep (Ag.of sT (by decide))) (fun I3 J4 hM3 hMo3 hfa hst t1 t2 => ?_))))))
        refine Ok.bxe (by omega) (by omega) (Ok.lbv ?_)
        have hpc : J4 m_pictures i = J x_notes_pictures i := by rw [t2 _ _ rfl, s2 _ _ rfl]; exact (h.2.2.2.2.1.2.2.2.1 i hi).1
        rw [n_cl (by omega), hpc]
        have hl : ∀ K k, k ≤ 3 ^ bW B → 3 ^ bW B - k < K → F_X12_never_L46 (nI i) I3 J4 K (nvS B (J x_notes_pictures i) k) (nI k) = some (nvS B (J x_notes_pictures i) (3 ^ bW B), I3, J4) := by
          refine up ?_ ?_
          · intro K
            rw [F_X12_never_L46, hst]
            simp only [cp, Option.bind_some]
            rw [if_pos (by rw [n_le] <;> omega)]
          · intro K k hk ih
            rw [F_X12_never_L46, hst]
            simp only [cp, Option.bind_some]
            rw [if_neg (by rw [n_le] <;> omega), n_bx (by omega) (by omega), n_cl (by omega), hpc, X12_turn hW hfa _ k hk]
            rw [nvS_s] at ih
            simp (disch := omega) only [Option.bind_some, lb, lit32, litL, b1_0, n_bx, n_cl, (hfa k hk).1, nI_1, nI_add]
            cases hc : isT B (J x_notes_pictures i) k with
            | false => rw [hc, if_neg (by simp)] at ih; rw [if_pos rfl]; exact ih
            | true => rw [hc, if_pos rfl] at ih; rw [if_neg (by simp)]; exact ih
        exact ⟨_, hl bgf 0 (Nat.zero_le _) (by unfold bgf; omega), rfl, hMo3, toM_2 sT t1 t2 (by decide) (by decide) (by decide)⟩
    · refine srch h (fr_X11_never (nI i) I J) (fun I1 J1 => fr_X12_never (nI i) I1 J1) (by decide) (-3) none ?_ ?_
      · unfold F_X11_never
        exact Ok.cpe (X11_isPic.1 ⟨i, hi, rfl⟩) (Ok.f (by decide) (noX hB hW hX (Ok.mk ⟨rfl, hTF.1, hTF.2.1, rfl, rfl⟩)))
      · intro I1 J1 hM hMo s1 s2
        have sT := th_s I1 0
        have hM2 : MB B (ui I1 m_self f_Model_thrown 0) := hM.keep (Ag.of sT (by decide))
        unfold F_X12_never
        exact Ok.lbv (Ok.cpe ((in_c (n := 4) (by omega) (by omega)).1 ⟨i, hi, rfl⟩ : F_X12_in (Int32.toInt64 (nI i)) 0 3 = _) (Ok.f (by decide) (Ok.cpe ((X12_can hB _ _ hM2).2 hW) (Ok.t (by decide) (Ok.mk ⟨rfl, hMo.keep (Ag.of sT (by decide)), toM_o sT (Sm.rf (w := [])) (by decide) (by decide)⟩)))))
  · refine ⟨-1, I, J, ui I m_self f_Model_thrown 0, J, ?_, ?_, IV_th h (th_s I 0) Sm.rf⟩
    · unfold F_X11_never
      rw [X11_isPic.2 hn]; rfl
    · unfold F_X12_never
      simp only [lb]
      have e : F_X12_in (Int32.toInt64 a1) 0 3 = some (nI 0) := (in_c (n := 4) (by omega) (by omega)).2 hn
      rw [e]; rfl

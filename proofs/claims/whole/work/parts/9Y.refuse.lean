/-! LAYER 2: parting, refused or opened -/
theorem X11_sable {B : Bd} (hB : OkB B) (hW : bW B ≤ 7) (I : HI) (J : HJ) (hX : XB B I J) : F_X11_isSearchable I J = some (nI 1) := by
  unfold F_X11_isSearchable
  rw [hX.1]
  simp (disch := omega) only [lit32, n_le]
  rw [if_neg (by rw [n_lt (by omega) (by omega)]; omega)]
theorem X11_nsable {B : Bd} (hB : OkB B) (hW : ¬ bW B ≤ 7) (I : HI) (J : HJ) (hX : XB B I J) : F_X11_isSearchable I J = some (nI 0) := by
  have := hB.2.1
  unfold F_X11_isSearchable
  rw [hX.1]
  simp (disch := omega) only [lit32, n_le]
  rw [if_pos (by rw [n_lt (by omega) (by omega)]; omega)]
theorem openP_1 {a : Int32} (hn : a < 0 ∨ nI 4 ≤ a) (I : HI) (J : HJ) : F_X11_openParting a I J = some (-1, I, J) := by
  unfold F_X11_openParting
  exact cp0 (X11_isPic.2 hn)
theorem openP_3 {B : Bd} (hB : OkB B) (hW : ¬ bW B ≤ 7) {i : Nat} (hi : i < 4) (I : HI) (J : HJ) (hX : XB B I J) : F_X11_openParting (nI i) I J = some (-3, I, J) := by
  unfold F_X11_openParting
  exact (cp1 (X11_isPic.1 ⟨i, hi, rfl⟩)).trans (cp0 (X11_nsable hB hW I J hX))
theorem openP_4 {B : Bd} (hB : OkB B) (hW : bW B ≤ 7) {i : Nat} (hi : i < 4) (I : HI) (J : HJ) (hX : XB B I J) (hp : ¬ pc (J x_notes_pictures i) ≤ 12) : F_X11_openParting (nI i) I J = some (-4, I, J) := by
  have := pc_le (J x_notes_pictures i)
  unfold F_X11_openParting
  refine (cp1 (X11_isPic.1 ⟨i, hi, rfl⟩)).trans ((cp1 (X11_sable hB hW I J hX)).trans ?_)
  rw [n_bx (by omega) (by omega), n_cl (by omega), bcN]
  show (if nI (pc (J x_notes_pictures i)) ≤ nI 12 then _ else _) = _
  rw [if_neg (by rw [n_le (by omega) (by omega)]; exact hp)]
theorem openP_ok {B : Bd} (hB : OkB B) (hW : bW B ≤ 7) {i : Nat} (hi : i < 4) (I : HI) (J : HJ) (hX : XB B I J) (hT : CTab B I J) (hF : CFlow I J) (hp : pc (J x_notes_pictures i) ≤ 12) : Ok (F_X11_openParting (nI i) I J) (fun q => q.1 = 0 ∧ XB B q.2.1 q.2.2 ∧ rfQ B q.2.1 q.2.2 ∧ mbX (lsP (J x_notes_pictures i) 60) q.2.1 ∧ cvX B (J x_notes_pictures i) (3 ^ bW B) q.2.1) := by
  have := pc_le (J x_notes_pictures i)
  unfold F_X11_openParting
  refine Ok.cpe (X11_isPic.1 ⟨i, hi, rfl⟩) (Ok.f (by decide) (Ok.cpe (X11_sable hB hW I J hX) (Ok.f (by decide) (Ok.bxe (by omega) (by omega) (Ok.cpe (bcN _) ?_)))))
  rw [n_cl (by omega)]
  refine Ok.t (show nI (pc (J x_notes_pictures i)) ≤ (12 : Int32) from (by rw [n_le (by omega) (by omega)]; exact hp : nI (pc (J x_notes_pictures i)) ≤ nI 12)) ?_
  refine Ok.call ((X8_refresh hB hW I J hX hT hF).fo (fr_X8_refresh I J)) (fun r I3 J3 _ hP => ?_)
  obtain ⟨hR, s1, s2⟩ := hP
  simp only at hR s1 s2
  refine Ok.bxe (by omega) (by omega) ?_
  rw [s2 x_notes_pictures _ rfl]
  refine Ok.call ((X4_open hp I3 J3 hR.1).fo (fr_X4_open _ I3 J3)) (fun r I4 J4 _ hP => ?_)
  obtain ⟨⟨q1, q2, q3⟩, t1, t2⟩ := hP
  simp only at q1 q2 q3 t1 t2
  have hX3 : XB B I3 J3 := hX.keep (Ag.of s1 (by decide)) (Ag.of s2 (by decide))
  exact Ok.mk ⟨rfl, hX3.keep (Ag.of t1 (by decide)) (Ag.of t2 (by decide)), hR.keep (Ag.of t1 (by decide)) (Ag.of t2 (by decide)) (Ag.of t1 (by decide)) (Ag.of t2 (by decide)), q1, q2⟩
theorem ref_1 {a : Int32} (hn : a < 0 ∨ nI 4 ≤ a) (I : HI) (J : HJ) : F_X12_refusal a I J = some (-1) := by
  unfold F_X12_refusal
  exact cp0 ((in_c (n := 4) (by omega) (by omega)).2 hn : F_X12_in (Int32.toInt64 a) 0 3 = _)
theorem ref_3 {B : Bd} (hB : OkB B) (hW : ¬ bW B ≤ 7) {i : Nat} (hi : i < 4) (I : HI) (J : HJ) (hM : MB B I) : F_X12_refusal (nI i) I J = some (-3) := by
  unfold F_X12_refusal
  exact (cp1 ((in_c (n := 4) (by omega) (by omega)).1 ⟨i, hi, rfl⟩ : F_X12_in (Int32.toInt64 (nI i)) 0 3 = _)).trans (cp0 ((X12_can hB I J hM).2 hW))
theorem ref_4 {B : Bd} (hB : OkB B) (hW : bW B ≤ 7) {i : Nat} (hi : i < 4) (I : HI) (J : HJ) (hM : MB B I) : F_X12_refusal (nI i) I J = some (if pc (J m_pictures i) ≤ 12 then 0 else -4) := by
  have := pc_le (J m_pictures i)
  unfold F_X12_refusal
  refine (cp1 ((in_c (n := 4) (by omega) (by omega)).1 ⟨i, hi, rfl⟩ : F_X12_in (Int32.toInt64 (nI i)) 0 3 = _)).trans ((cp1 ((X12_can hB I J hM).1 hW)).trans ?_)
  rw [n_bx (by omega) (by omega), n_cl (by omega), bcN]
  show (if nI (pc (J m_pictures i)) ≤ nI 12 then some (0 : Int32) else some (-4)) = _
  by_cases c : pc (J m_pictures i) ≤ 12
  · rw [if_pos c, if_pos (by rw [n_le (by omega) (by omega)]; exact c)]
  · rw [if_neg c, if_neg (by rw [n_le (by omega) (by omega)]; exact c)]

/-! LAYER 2: settings by their numbers, the tables -/
theorem n_div {a b : Nat} (ha : a < 2147483648) (hb : b < 2147483648) : nI a / nI b = nI (a / b) := by
  have h3 : a / b ≤ a := Nat.div_le_self a b
  apply Int32.toInt_inj.mp
  rw [Int32.toInt_div, n_int ha, n_int hb, n_int (by omega), ← Int.ofNat_tdiv]
  generalize a / b = c at *
  rw [Int.bmod_eq_of_le] <;> omega
theorem n_rem {a : Nat} (ha : a < 2147483648) : orem (nI a) (nI 3) = nI (a % 3) := by
  unfold orem
  rw [n_div ha (by omega), n_mul, n_sub (by omega)]
  congr 1; omega
theorem nz3 {α : Type} (f : Option α) : nzi (nI 3) f = f := by unfold nzi; rw [if_neg (by decide)]
def dI (n : Nat) : Int32 := nI n - nI 1
theorem dI_0 : dI 0 < 0 := by decide
theorem dI_s (n : Nat) : dI (n + 1) = nI n := nI_pred n
theorem dI_m (n : Nat) : nI n + (-nI 1) = dI n := (Int32.sub_eq_add_neg _ _).symm
theorem or_z (x : Int32) : x ||| nI 0 = x := by apply bi_ext; intro k _; rw [bi_or, bi_z, Bool.or_false]
theorem X11_wires_L (d : Nat) (hd : d < 3) : ∀ n K r acc, n < K → r < 2147483648 → n ≤ 32 → F_X11_wiresThatAre_L10 (nI d) K (nI r) acc (dI n) = some (wrF d n r acc) := by
  intro n
  induction n with
  | zero =>
    intro K r acc hK _ _
    cases K with
    | zero => omega
    | succ K => rw [F_X11_wiresThatAre_L10, if_pos dI_0]; rfl
  | succ n ih =>
    intro K r acc hK hr hn
    cases K with
    | zero => omega
    | succ K =>
      rw [F_X11_wiresThatAre_L10, dI_s, if_neg (n_nn (by omega)), wrF]
      simp only [lb, lit32, nz3, n_rem hr, n_div hr (show 3 < 2147483648 by decide), dI_m]
      have hr3 : r / 3 < 2147483648 := by omega
      by_cases c : r % 3 = d
      · rw [if_pos (by rw [c]), if_pos c]
        exact ih K (r / 3) _ (by omega) hr3 (by omega)
      · rw [if_neg (by rw [n_eq] <;> omega), if_neg c]
        exact ih K (r / 3) _ (by omega) hr3 (by omega)
theorem X11_wires (d s W : Nat) (hd : d < 3) (hs : s < 2147483648) (hW : W ≤ 10) : F_X11_wiresThatAre (nI d) (nI s) (nI W) = some (wr W d s) := by
  unfold F_X11_wiresThatAre
  simp only [lb, lit32]
  rw [show nI W - nI 1 = dI W from rfl]
  exact X11_wires_L d hd W bgf s (nI 0) (by unfold bgf; omega) hs (by omega)
theorem X12_wires_L (d : Nat) (hd : d < 3) (I : HI) (J : HJ) : ∀ n K r acc, n < K → r < 2147483648 → n ≤ 32 → F_X12_wiresAt_L13 (nI d) I J K acc (nI r) (dI n) = some (wrF d n r acc) := by
  intro n
  induction n with
  | zero =>
    intro K r acc hK _ _
    cases K with
    | zero => omega
    | succ K => rw [F_X12_wiresAt_L13, if_pos dI_0]; rfl
  | succ n ih =>
    intro K r acc hK hr hn
    cases K with
    | zero => omega
    | succ K =>
      rw [F_X12_wiresAt_L13, dI_s, if_neg (n_nn (by omega)), wrF]
      simp only [lb, lit32, nz3, n_rem hr, n_div hr (show 3 < 2147483648 by decide), dI_m, or_z]
      have hr3 : r / 3 < 2147483648 := by omega
      by_cases c : r % 3 = d
      · rw [if_pos (by rw [c]), if_pos c]
        exact ih K (r / 3) _ (by omega) hr3 (by omega)
      · rw [if_neg (by rw [n_eq] <;> omega), if_neg c]
        exact ih K (r / 3) _ (by omega) hr3 (by omega)
theorem X12_wires (d s W : Nat) (hd : d < 3) (hs : s < 2147483648) (hW : W ≤ 10) {I : HI} {J : HJ} (e : I m_self f_Model_wide = nI W) : F_X12_wiresAt (nI s) (nI d) I J = some (wr W d s) := by
  unfold F_X12_wiresAt
  rw [e]
  simp only [lb, lit32]
  rw [show nI W - nI 1 = dI W from rfl]
  exact X12_wires_L d hd I J W bgf s (nI 0) (by unfold bgf; omega) hs (by omega)
theorem wrF_b (d : Nat) : ∀ n r acc k, n ≤ 32 → bi (wrF d n r acc) k = (bi acc k || (decide (k < n) && decide (r / 3 ^ (n - 1 - k) % 3 = d))) := by
  intro n
  induction n with
  | zero => intro r acc k _; simp [wrF]
  | succ n ih =>
    intro r acc k hn
    rw [wrF, ih _ _ _ (by omega)]
    by_cases c : k = n
    · subst c
      have e1 : bi (if r % 3 = d then acc ||| oshl (nI 1) (nI k) else acc) k = (bi acc k || decide (r % 3 = d)) := by
        by_cases e : r % 3 = d
        · rw [if_pos e, bi_or, t_ione (by omega)]; simp [e]
        · rw [if_neg e]; simp [e]
      rw [e1]
      simp
    · have e1 : bi (if r % 3 = d then acc ||| oshl (nI 1) (nI n) else acc) k = bi acc k := by
        by_cases e : r % 3 = d
        · rw [if_pos e, bi_or, t_ione (by omega)]; simp [c]
        · rw [if_neg e]
      rw [e1]
      by_cases h : k < n
      · have h2 : k < n + 1 := by omega
        have h3 : n + 1 - 1 - k = (n - 1 - k) + 1 := by omega
        rw [h3, Nat.pow_succ, Nat.mul_comm, ← Nat.div_div_eq_div_mul]
        simp [h, h2]
      · have h2 : ¬ k < n + 1 := by omega
        simp [h, h2]
theorem wr_b (W d s k : Nat) (hW : W ≤ 10) : bi (wr W d s) k = (decide (k < W) && decide (s / 3 ^ (W - 1 - k) % 3 = d)) := by
  unfold wr; rw [wrF_b d W s (nI 0) k (by omega), bi_z, Bool.false_or]
theorem wr_ok (W s : Nat) (hW : W ≤ 10) : okSt W (wr W 1 s) (wr W 2 s) := by
  refine ⟨fun w => ?_, fun w hw => ?_⟩
  · rw [wr_b _ _ _ _ hW, wr_b _ _ _ _ hW]
    by_cases c : s / 3 ^ (W - 1 - w) % 3 = 1
    · have : ¬ s / 3 ^ (W - 1 - w) % 3 = 2 := by omega
      simp [this]
    · simp [c]
  · rw [wr_b _ _ _ _ hW, wr_b _ _ _ _ hW]
    have : ¬ w < W := by omega
    simp [this]
theorem p3_le {W : Nat} (h : W ≤ 7) : 3 ^ W ≤ 2187 := Nat.le_trans (Nat.pow_le_pow_right (by decide) h) (by decide)
theorem X11_settings (W : Nat) (hW : W ≤ 7) : F_X11_settingsOf (nI W) = some (nI (3 ^ W)) := by
  unfold F_X11_settingsOf
  have h : ∀ K i, i ≤ W → W - i < K → F_X11_settingsOf_L4 (nI W) K (nI (3 ^ i)) (nI i) = some (nI (3 ^ W)) := by
    refine up ?_ ?_
    · intro K
      rw [F_X11_settingsOf_L4, if_pos (by rw [n_le] <;> omega)]
    · intro K i hi ih
      rw [F_X11_settingsOf_L4, if_neg (by rw [n_le] <;> omega)]
      simp only [lb, lit32, n_mul, nI_1, nI_add]
      rw [Nat.pow_succ] at ih
      exact ih
  exact h bgf 0 (Nat.zero_le _) (by unfold bgf; omega)
theorem X12_settings (W : Nat) (hW : W ≤ 7) {I : HI} {J : HJ} (e : I m_self f_Model_wide = nI W) : F_X12_settings I J = some (nI (3 ^ W)) := by
  unfold F_X12_settings
  have h : ∀ K i, i ≤ W → W - i < K → F_X12_settings_L4 I J K (nI (3 ^ i)) (nI i) = some (nI (3 ^ W)) := by
    refine up ?_ ?_
    · intro K
      rw [F_X12_settings_L4, if_pos (by rw [e, n_le] <;> omega)]
    · intro K i hi ih
      rw [F_X12_settings_L4, if_neg (by rw [e, n_le] <;> omega)]
      simp only [lb, lit32, n_mul, nI_1, nI_add]
      rw [Nat.pow_succ] at ih
      exact ih
  exact h bgf 0 (Nat.zero_le _) (by unfold bgf; omega)
theorem Ok.lr {α : Type} {h l : Int32} {I : HI} {J : HJ} {P : Int64 × HI × HJ → Prop} {G : Int64 → HI → HJ → Option α} {Q : α → Prop} (h1 : Ok (F_X1_glowing h l I J) P) (k : ∀ r I1 J1, F_X1_glowing h l I J = some (r, I1, J1) → P (r, I1, J1) → Ok (G r I1 J1) Q) : Ok (cl (F_X1_lay h l I J) fun _ I1 J1 => cl (F_X1_run I1 J1) G) Q := by
  obtain ⟨⟨r, I2, J2⟩, e, hq⟩ := h1
  have hk := k r I2 J2 e hq
  unfold F_X1_glowing at e
  simp only [cl_some] at e
  unfold cl at e ⊢
  cases hc : F_X1_lay h l I J with
  | none => rw [hc] at e; cases e
  | some q =>
    rw [hc] at e
    simp only [Option.bind_some] at e ⊢
    rw [e]
    exact hk
theorem nar_b (p : Bool) : vp_nar .boolean (b1 p) = b1 p := by cases p <;> rfl
def tbI (B : Bd) (i : Nat) (I : HI) (J : HJ) : Prop := ∀ s, s < i → (J x_table_glow s = gS B 0 s ∧ I x_table_clean s = b1 (clS B s)) ∧ I x_table_high s = wr (bW B) 1 s ∧ I x_table_low s = wr (bW B) 2 s
theorem X8_ref_L {B : Bd} (hB : OkB B) (hW : bW B ≤ 7) (kx : HI → HJ → Option (Unit × HI × HJ)) (Q : Unit × HI × HJ → Prop) (hx : ∀ I J, XB B I J → CFlow I J → I x_table f_Table_size = nI (3 ^ bW B) → tbI B (3 ^ bW B) I J → Ok (kx I J) Q) :
    ∀ K i, i ≤ 3 ^ bW B → 3 ^ bW B - i < K → ∀ I J, XB B I J → CFlow I J → I x_table f_Table_size = nI (3 ^ bW B) → tbI B i I J → Ok (F_X8_refresh_L30 kx K (nI i) I J) Q := by
  have hp := p3_le hW
  refine up ?_ ?_
  · intro K I J hX hF hs ht
    rw [F_X8_refresh_L30, if_pos (by rw [hs, n_le] <;> omega)]
    exact hx I J hX hF hs ht
  · intro K i hi ih I J hX hF hs ht
    rw [F_X8_refresh_L30, if_neg (by rw [hs, n_le] <;> omega), hX.1]
    have hok := wr_ok (bW B) i hB.2.1
    refine Ok.cpe (X11_wires 1 i (bW B) (by omega) (by omega) hB.2.1) (Ok.bxe (by omega) (by omega) ?_)
    rw [n_cl (by omega)]
    refine Ok.lbv ?_
    rw [show ui I x_table_high i (wr (bW B) 1 i) x_board f_Board_wide = nI (bW B) from (by rw [ui_c (by decide)]; exact hX.1)]
    refine Ok.cpe (X11_wires 2 i (bW B) (by omega) (by omega) hB.2.1) (Ok.bxe (by omega) (by omega) ?_)
    refine Ok.lbe (fun I0 eI0 => Ok.bxe (by omega) (by omega) (Ok.bxe (by omega) (by omega) ?_))
    have e1 : I0 x_table_high i = wr (bW B) 1 i := by rw [eI0, ui_c (by decide), ui_r]
    have e2 : I0 x_table_low i = wr (bW B) 2 i := by rw [eI0, ui_r]
    have s0 : Sm [(x_table_high, none), (x_table_low, none)] I I0 := by rw [eI0]; exact Sm.mi rfl (Sm.mi rfl Sm.rf)
    have eo : ∀ s, s ≠ i → I0 x_table_high s = I x_table_high s ∧ I0 x_table_low s = I x_table_low s := fun s hs' => by
      rw [eI0, ui_c (by decide), ui_j hs', ui_j hs', ui_c (by decide)]; exact ⟨rfl, rfl⟩
    clear eI0
    have hX0 : XB B I0 J := hX.keep (Ag.of s0 (by decide)) (fun _ _ _ => rfl)
    have hF0 : CFlow I0 J := hF.keep (Ag.of s0 (by decide)) (fun _ _ _ => rfl)
    rw [e1, e2]
    refine Ok.lr (X1_glowingF hB _ _ hok.1 I0 J hX0 hF0) (fun r I1 J1 e hq => ?_)
    obtain ⟨s1, s2⟩ := fr_X1_glowing _ _ I0 J r I1 J1 e
    have hfl := gQ_flow hB (nF_0 B) hok.1 hq
    have qr : r = gS B 0 i := hq.1
    simp only at hfl
    refine Ok.bxe (by omega) (by omega) (Ok.lbv (Ok.bxe (by omega) (by omega) (Ok.bxe (by omega) (by omega) (Ok.bxe (by omega) (by omega) ?_))))
    rw [s1 x_table_high _ rfl, s1 x_table_low _ rfl, e1, e2]
    have sJ : Sm [(x_table_glow, none)] J1 (uj J1 x_table_glow i r) := Sm.mj rfl Sm.rf
    have hX1 : XB B I1 (uj J1 x_table_glow i r) := hX0.keep (Ag.of s1 (by decide)) (Ag.two s2 sJ (by decide) (by decide))
    refine Ok.cpe (X0_asked hB _ _ I1 _ hX1) ?_
    have fin : Ok (F_X8_refresh_L30 kx K (nI (i + 1)) (ui I1 x_table_clean i (b1 (clS B i))) (uj J1 x_table_glow i r)) Q := by
      have sI : Sm [(x_table_clean, none)] I1 (ui I1 x_table_clean i (b1 (clS B i))) := Sm.mi rfl Sm.rf
      refine ih _ _ (hX1.keep (Ag.of sI (by decide)) (fun _ _ _ => rfl)) (hfl.keep (Ag.of sI (by decide)) (Ag.of sJ (by decide))) (by rw [sI _ _ rfl, s1 _ _ rfl, s0 _ _ rfl]; exact hs) (fun s hs' => ?_)
      rw [uj_s, ui_s, sI x_table_high _ rfl, sI x_table_low _ rfl, s1 x_table_high _ rfl, s1 x_table_low _ rfl]
      by_cases c : s = i
      · rw [if_pos c, if_pos c, c, qr]; exact ⟨⟨rfl, rfl⟩, e1, e2⟩
      · rw [if_neg c, if_neg c, s1 _ _ rfl, s2 _ _ rfl, s0 x_table_clean _ rfl, (eo s c).1, (eo s c).2]; exact ht s (by omega)
    simp (disch := omega) only [lb, lit32, litL, cm0, n_bx, n_cl, uj_r, nI_1, nI_add, qr]
    rw [qr] at fin
    by_cases c : gS B 0 i &&& (asS B (bi (wr (bW B) 1 i)) (bi (wr (bW B) 2 i)) ^^^ (-lN 1)) = lN 0
    · have e2 : clS B i = true := by unfold clS; simp [c]
      rw [if_pos c]
      rw [e2] at fin
      exact fin
    · have e2 : clS B i = false := by unfold clS; simp [c]
      rw [if_neg c]
      rw [e2] at fin
      exact fin
theorem omin_n {a b : Nat} (ha : a < 2147483648) (hb : b < 2147483648) : omin (nI a) (nI b) = nI (min a b) := by
  unfold omin
  simp (disch := omega) only [n_lt, n_le]
  by_cases c : a < b
  · first | rw [if_pos c, Nat.min_eq_left (by omega)] | (rw [if_neg (by omega), Nat.min_eq_left (by omega)]) | (rw [if_pos (by omega), Nat.min_eq_left (by omega)])
  · by_cases d : a = b
    · subst d; rw [Nat.min_self]; split <;> rfl
    · first | rw [if_neg c, Nat.min_eq_right (by omega)] | (rw [if_pos (by omega), Nat.min_eq_right (by omega)]) | (rw [if_neg (by omega), Nat.min_eq_right (by omega)])
def rfQ (B : Bd) (I : HI) (J : HJ) : Prop := tabOk B I J ∧ I x_table f_Table_fresh = nI 1 ∧ CFlow I J
theorem X8_refresh {B : Bd} (hB : OkB B) (hW : bW B ≤ 7) (I : HI) (J : HJ) (hX : XB B I J) (hT : CTab B I J) (hF : CFlow I J) : Ok (F_X8_refresh I J) (fun q => rfQ B q.2.1 q.2.2) := by
  have hp := p3_le hW
  obtain ⟨p, e, ht⟩ := hT
  unfold F_X8_refresh
  cases p with
  | true =>
    refine Ok.f (show ¬ I x_table f_Table_fresh = 0 by rw [e]; decide) (Ok.mk ⟨ht rfl, e, hF⟩)
  | false =>
    refine Ok.t (show I x_table f_Table_fresh = 0 by rw [e]; rfl) ?_
    rw [hX.1]
    refine Ok.cpe (X11_settings _ hW) (Ok.lbv ?_)
    have em : omin (nI (3 ^ bW B)) (2187 : Int32) = nI (3 ^ bW B) := by
      have := omin_n (a := 3 ^ bW B) (b := 2187) (by omega) (by omega)
      rw [Nat.min_eq_left hp] at this
      exact this
    rw [em]
    have sI : Sm [(x_table, some f_Table_size)] I (ui I x_table f_Table_size (nI (3 ^ bW B))) := Sm.mi rfl Sm.rf
    refine X8_ref_L hB hW _ _ ?_ bgf 0 (Nat.zero_le _) (by unfold bgf; omega) _ J (hX.keep (Ag.of sI (by decide)) (fun _ _ _ => rfl)) (hF.keep (Ag.of sI (by decide)) (fun _ _ _ => rfl)) (by rw [ui_r]) (fun s hs => by omega)
    intro I2 J2 hX2 hF2 hs2 ht2
    have s3 : Sm [(x_table, some f_Table_fresh)] I2 (ui I2 x_table f_Table_fresh 1) := Sm.mi rfl Sm.rf
    refine Ok.lbv (Ok.mk ⟨⟨hW, ?_, fun s hs => ?_, fun s hs => ?_⟩, ?_, hF2.keep (Ag.of s3 (by decide)) (fun _ _ _ => rfl)⟩) <;> dsimp only
    · rw [s3 _ _ rfl]; exact hs2
    · rw [s3 _ _ rfl]; exact (ht2 s hs).1
    · rw [s3 x_table_high _ rfl, s3 x_table_low _ rfl]; exact (ht2 s hs).2
    · rw [ui_r]; rfl
theorem rfQ.tab {B : Bd} {I : HI} {J : HJ} (h : rfQ B I J) : CTab B I J := ⟨true, h.2.1, fun _ => h.1⟩
theorem rfQ.keep {B : Bd} {I I' : HI} {J J' : HJ} (h : rfQ B I J) (a : Ag rdTbi I I') (b : Ag rdTbj J J') (c : Ag [(x_flow, some f_Flow_watched)] I I') (d : Ag [(x_flow, some f_Flow_lit), (x_flow_light, none)] J J') : rfQ B I' J' := ⟨h.1.keep a b, by rw [a _ _ rfl]; exact h.2.1, h.2.2.keep c d⟩
theorem X11_open {B : Bd} (hB : OkB B) (hW : bW B ≤ 7) (I : HI) (J : HJ) (hX : XB B I J) (hT : CTab B I J) (hF : CFlow I J) : Ok (F_X11_openTable I J) (fun q => q.1 = nI 1 ∧ rfQ B q.2.1 q.2.2) := by
  unfold F_X11_openTable
  have e : F_X11_isSearchable I J = some (nI 1) := by
    unfold F_X11_isSearchable
    rw [hX.1, if_neg (show ¬ (7 : Int32) < nI (bW B) from (by rw [n_lt (by omega) (by omega)]; omega : ¬ nI 7 < nI (bW B)))]; rfl
  refine Ok.cpe e (Ok.f (by decide) ?_)
  exact Ok.call (X8_refresh hB hW I J hX hT hF) (fun r I1 J1 _ hP => Ok.mk ⟨rfl, hP⟩)
theorem X11_noopen {B : Bd} (hB : OkB B) (hW : ¬ bW B ≤ 7) (I : HI) (J : HJ) (hX : XB B I J) : F_X11_openTable I J = some (nI 0, I, J) := by
  have := hB.2.1
  unfold F_X11_openTable F_X11_isSearchable
  rw [hX.1, if_pos (show (7 : Int32) < nI (bW B) from (by rw [n_lt (by omega) (by omega)]; omega : nI 7 < nI (bW B)))]; rfl
theorem X12_can {B : Bd} (hB : OkB B) (I : HI) (J : HJ) (hM : MB B I) : (bW B ≤ 7 → F_X12_canSearch I J = some (nI 1)) ∧ (¬ bW B ≤ 7 → F_X12_canSearch I J = some (nI 0)) := by
  have := hB.2.1
  unfold F_X12_canSearch
  rw [hM.1]
  constructor
  · intro h
    rw [if_neg (show ¬ (7 : Int32) < nI (bW B) from (by rw [n_lt (by omega) (by omega)]; omega : ¬ nI 7 < nI (bW B)))]; rfl
  · intro h
    rw [if_pos (show (7 : Int32) < nI (bW B) from (by rw [n_lt (by omega) (by omega)]; omega : nI 7 < nI (bW B)))]; rfl
theorem X12_high {B : Bd} (hB : OkB B) {I : HI} {J : HJ} (hM : MB B I) (s : Nat) (hs : s < 2147483648) : F_X12_highOf (nI s) I J = some (wr (bW B) 1 s) ∧ F_X12_lowOf (nI s) I J = some (wr (bW B) 2 s) := by
  unfold F_X12_highOf F_X12_lowOf
  have e1 : F_X12_wiresAt (nI s) 1 I J = some (wr (bW B) 1 s) := X12_wires 1 s (bW B) (by omega) hs hB.2.1 hM.1
  have e2 : F_X12_wiresAt (nI s) 2 I J = some (wr (bW B) 2 s) := X12_wires 2 s (bW B) (by omega) hs hB.2.1 hM.1
  rw [e1, e2]; exact ⟨rfl, rfl⟩
theorem LD.keep {B : Bd} {k a b : Nat} {I I' : HI} (h : LD B k a b I) (g : Ag [(m_self, some f_Model_laidKind), (m_self, some f_Model_laidA), (m_self, some f_Model_laidB), (m_listFrom, none), (m_list, none), (m_goesTo, none)] I I') : LD B k a b I' := by
  obtain ⟨⟨d1, d2, d3⟩, d4, d5⟩ := h
  refine ⟨⟨by rw [g _ _ rfl]; exact d1, fun hh => by rw [g _ _ rfl]; exact d2 hh, fun hh => by rw [g _ _ rfl]; exact d3 hh⟩, fun w hw => by rw [g _ _ rfl]; exact d4 w hw, fun w hw i hi => ?_⟩
  rw [g m_list _ rfl, g m_goesTo _ rfl]; exact d5 w hw i hi
theorem X12_fg_97_L {B : Bd} (hB : OkB B) (hW : bW B ≤ 7) {f : Nat} (hf : f < nF B) :
    ∀ K i, i ≤ 3 ^ bW B → 3 ^ bW B - i < K → ∀ I J, MB B I → LD B (ftK (bW B) f) (ftA (bW B) f) (ftB (bW B) f) I → CMod I → (∀ s, s < i → J m_glow s = gS B f s) → Ok (F_X12_findGlow_99_L13 (nI (3 ^ bW B)) K (nI i) I J) (fun q => ∀ s, s < 3 ^ bW B → q.2.2 m_glow s = gS B f s) := by
  have hp := p3_le hW
  refine up ?_ ?_
  · intro K I J _ _ _ ht
    rw [F_X12_findGlow_99_L13, if_pos (by rw [n_le] <;> omega)]
    exact Ok.mk ht
  · intro K i hi ih I J hM hL hMo ht
    rw [F_X12_findGlow_99_L13, if_neg (by rw [n_le] <;> omega)]
    obtain ⟨e1, e2⟩ := X12_high hB (J := J) hM i (by omega)
    refine Ok.cpe e1 (Ok.cpe e2 ?_)
    refine Ok.call ((X12_glowing hB hf none trivial _ _ (wr_ok (bW B) i hB.2.1).1 I J hM hL hMo.c0).fo (fr_X12_glowing _ _ I J)) (fun r I1 J1 _ hP => ?_)
    obtain ⟨⟨q1, _⟩, q2, q3⟩ := hP
    simp only at q1 q2 q3
    refine Ok.bxe (by omega) (by omega) (Ok.lbv ?_)
    rw [n_cl (by omega), nI_1]
    refine ih I1 _ (hM.keep (Ag.of q2 (by decide))) (hL.keep (Ag.of q2 (by decide))) (hMo.keep (Ag.of q2 (by decide))) (fun s hs => ?_)
    rw [uj_s]
    by_cases c : s = i
    · rw [if_pos c, q1, c]; rfl
    · rw [if_neg c, q3 _ _ rfl]; exact ht s (by omega)
theorem X12_fg_97 {B : Bd} (hB : OkB B) (hW : bW B ≤ 7) {f : Nat} (hf : f < nF B) (I : HI) (J : HJ) (hM : MB B I) (hMo : CMod I) : Ok (F_X12_findGlow_99 (nI f) I J) (fun q => ∀ s, s < 3 ^ bW B → q.2.2 m_glow s = gS B f s) := by
  have hp := p3_le hW
  unfold F_X12_findGlow_99
  refine Ok.call ((X12_lay hB hf I J hM).fo (fr_X12_lay _ I J)) (fun r I1 J1 _ hP => ?_)
  obtain ⟨q1, q2, q3⟩ := hP
  simp only at q1 q2 q3
  have hM1 : MB B I1 := hM.keep (Ag.of q2 (by decide))
  refine Ok.cpe (X12_settings _ hW hM1.1) ?_
  exact X12_fg_97_L hB hW hf bgf 0 (Nat.zero_le _) (by unfold bgf; omega) I1 J1 hM1 q1 (hMo.keep (Ag.of q2 (by decide))) (fun s hs => by omega)
theorem X12_fg_111_L {B : Bd} (hB : OkB B) (hW : bW B ≤ 7) {f : Nat} (hf : f < nF B) :
    ∀ K i, i ≤ 3 ^ bW B → 3 ^ bW B - i < K → ∀ I J, MB B I → LD B (ftK (bW B) f) (ftA (bW B) f) (ftB (bW B) f) I → CMod I → (∀ s, s < i → J m_glowToo s = gS B f s) → Ok (F_X12_findGlow_113_L13 (nI (3 ^ bW B)) K (nI i) I J) (fun q => ∀ s, s < 3 ^ bW B → q.2.2 m_glowToo s = gS B f s) := by
  have hp := p3_le hW
  refine up ?_ ?_
  · intro K I J _ _ _ ht
    rw [F_X12_findGlow_113_L13, if_pos (by rw [n_le] <;> omega)]
    exact Ok.mk ht
  · intro K i hi ih I J hM hL hMo ht
    rw [F_X12_findGlow_113_L13, if_neg (by rw [n_le] <;> omega)]
    obtain ⟨e1, e2⟩ := X12_high hB (J := J) hM i (by omega)
    refine Ok.cpe e1 (Ok.cpe e2 ?_)
    refine Ok.call ((X12_glowing hB hf none trivial _ _ (wr_ok (bW B) i hB.2.1).1 I J hM hL hMo.c0).fo (fr_X12_glowing _ _ I J)) (fun r I1 J1 _ hP => ?_)
    obtain ⟨⟨q1, _⟩, q2, q3⟩ := hP
    simp only at q1 q2 q3
    refine Ok.bxe (by omega) (by omega) (Ok.lbv ?_)
    rw [n_cl (by omega), nI_1]
    refine ih I1 _ (hM.keep (Ag.of q2 (by decide))) (hL.keep (Ag.of q2 (by decide))) (hMo.keep (Ag.of q2 (by decide))) (fun s hs => ?_)
    rw [uj_s]
    by_cases c : s = i
    · rw [if_pos c, q1, c]; rfl
    · rw [if_neg c, q3 _ _ rfl]; exact ht s (by omega)
theorem X12_fg_111 {B : Bd} (hB : OkB B) (hW : bW B ≤ 7) {f : Nat} (hf : f < nF B) (I : HI) (J : HJ) (hM : MB B I) (hMo : CMod I) : Ok (F_X12_findGlow_113 (nI f) I J) (fun q => ∀ s, s < 3 ^ bW B → q.2.2 m_glowToo s = gS B f s) := by
  have hp := p3_le hW
  unfold F_X12_findGlow_113
  refine Ok.call ((X12_lay hB hf I J hM).fo (fr_X12_lay _ I J)) (fun r I1 J1 _ hP => ?_)
  obtain ⟨q1, q2, q3⟩ := hP
  simp only at q1 q2 q3
  have hM1 : MB B I1 := hM.keep (Ag.of q2 (by decide))
  refine Ok.cpe (X12_settings _ hW hM1.1) ?_
  exact X12_fg_111_L hB hW hf bgf 0 (Nat.zero_le _) (by unfold bgf; omega) I1 J1 hM1 q1 (hMo.keep (Ag.of q2 (by decide))) (fun s hs => by omega)
def faQ (B : Bd) (I : HI) (J : HJ) : Prop := ∀ s, s < 3 ^ bW B → J m_glow s = gS B 0 s ∧ I m_isGhostly s = b1 (!clS B s)
theorem X12_findAll {B : Bd} (hB : OkB B) (hW : bW B ≤ 7) (I : HI) (J : HJ) (hM : MB B I) (hMo : CMod I) : Ok (F_X12_findAll I J) (fun q => faQ B q.2.1 q.2.2) := by
  have hp := p3_le hW
  unfold F_X12_findAll
  refine Ok.call ((X12_fg_97 hB hW (nF_0 B) I J hM hMo).fo (fr_X12_findGlow_99 _ I J)) (fun r I1 J1 _ hP => ?_)
  obtain ⟨q1, q2, q3⟩ := hP
  simp only at q1 q2 q3
  have hM1 : MB B I1 := hM.keep (Ag.of q2 (by decide))
  refine Ok.cpe (X12_settings _ hW hM1.1) ?_
  have hl : ∀ K i, i ≤ 3 ^ bW B → 3 ^ bW B - i < K → ∀ I', Sm [(m_isGhostly, none)] I1 I' → (∀ s, s < i → I' m_isGhostly s = b1 (!clS B s)) → Ok (F_X12_findAll_L16 (nI (3 ^ bW B)) J1 K (nI i) I') (fun q => faQ B q.2.1 q.2.2) := by
    refine up ?_ ?_
    · intro K I' _ ht
      rw [F_X12_findAll_L16, if_pos (by rw [n_le] <;> omega)]
      exact Ok.mk (fun s hs => ⟨q1 s hs, ht s hs⟩)
    · intro K i hi ih I' s1 ht
      rw [F_X12_findAll_L16, if_neg (by rw [n_le] <;> omega)]
      have hM2 : MB B I' := hM1.keep (Ag.of s1 (by decide))
      obtain ⟨e1, e2⟩ := X12_high hB (J := J1) hM2 i (by omega)
      refine Ok.bxe (by omega) (by omega) (Ok.cpe e1 (Ok.cpe e2 (Ok.cpe (X12_askedFor hB _ _ I' J1 hM2) ?_)))
      have fin : Ok (F_X12_findAll_L16 (nI (3 ^ bW B)) J1 K (nI (i + 1)) (ui I' m_isGhostly i (b1 (!clS B i)))) (fun q => faQ B q.2.1 q.2.2) := by
        refine ih _ (Sm.mi rfl s1) (fun s hs => ?_)
        rw [ui_s]
        by_cases c : s = i
        · rw [if_pos c, c]
        · rw [if_neg c]; exact ht s (by omega)
      simp (disch := omega) only [lb, lit32, litL, cm0, n_bx, n_cl, nI_1, nI_add, q1 i hi]
      by_cases c : gS B 0 i &&& (asS B (bi (wr (bW B) 1 i)) (bi (wr (bW B) 2 i)) ^^^ (-lN 1)) = lN 0
      · have e2 : clS B i = true := by unfold clS; simp [c]
        rw [if_pos c]
        rw [e2] at fin
        exact fin
      · have e2 : clS B i = false := by unfold clS; simp [c]
        rw [if_neg c]
        rw [e2] at fin
        exact fin
  exact hl bgf 0 (Nat.zero_le _) (by unfold bgf; omega) I1 Sm.rf (fun s hs => by omega)

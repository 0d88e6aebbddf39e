/-! LAYER 2: even: the lights of the turns, the slots -/
def lgS (B : Bd) (L C : List Nat) (t k : Nat) : Int64 := lN (liT (ptF B 0 (bi (wr (bW B) 1 (L.getD t 0))) (bi (wr (bW B) 2 (L.getD t 0)))) (C.getD k 0))
def smS (g : Nat → Int64) (sl : Nat → Nat) : Nat → Int64
  | 0 => 0
  | t+1 => smS g sl t + tI (sl t) * g t
theorem tI_s {v : Nat} (h : v < 1000) : tI (v + 1) = tI v + 1 := by
  show (nI (v + 1)).toInt64 = (nI v).toInt64 + 1
  rw [n_l (by omega), n_l (by omega)]
  show Int64.ofNat (v + 1) = Int64.ofNat v + 1
  rw [Int64.ofNat_add]; rfl
theorem smS_1 (g : Nat → Int64) (t : Nat) : smS g (fun _ => 1) (t + 1) = smS g (fun _ => 1) t + g t := by
  show smS g (fun _ => 1) t + tI 1 * g t = _
  rw [show tI 1 = 1 from rfl, Int64.one_mul]
def inc (sl : Nat → Nat) (r : Nat) : Nat → Nat := fun t => if t = r then sl t + 1 else sl t
theorem smS_e {g : Nat → Int64} {sl sl' : Nat → Nat} : ∀ {T : Nat}, (∀ t, t < T → sl t = sl' t) → smS g sl T = smS g sl' T
  | 0, _ => rfl
  | T+1, h => by
    show smS g sl T + tI (sl T) * g T = smS g sl' T + tI (sl' T) * g T
    rw [smS_e (fun t ht => h t (by omega)), h T (by omega)]
theorem smS_inc {g : Nat → Int64} {sl : Nat → Nat} {r : Nat} (hr : sl r < 1000) : ∀ {T : Nat}, r < T → smS g (inc sl r) T = smS g sl T + g r
  | 0, h => by omega
  | T+1, h => by
    show smS g (inc sl r) T + tI (inc sl r T) * g T = smS g sl T + tI (sl T) * g T + g r
    by_cases c : T = r
    · subst c
      rw [smS_e (sl' := sl) (fun t ht => by unfold inc; rw [if_neg (by omega)])]
      have e : inc sl T T = sl T + 1 := by unfold inc; rw [if_pos rfl]
      rw [e, tI_s hr, Int64.add_mul, Int64.one_mul, Int64.add_assoc]
    · rw [smS_inc hr (by omega)]
      have e : inc sl r T = sl T := by unfold inc; rw [if_neg c]
      rw [e, Int64.add_assoc, Int64.add_comm (g r), Int64.add_assoc]
def dmF (f : Nat → Int64) : Nat → Nat
  | 0 => 0
  | k+1 => if f k < f (dmF f k) then k else dmF f k
def mxF (g : Nat → Int64) : Nat → Nat
  | 0 => 0
  | k+1 => if g (mxF g k) < g k then k else mxF g k
theorem l_ir (x : Int64) : ¬ x < x := fun h => by rw [l_lt] at h; omega
theorem dmF_1 (f : Nat → Int64) : dmF f 1 = 0 := if_neg (l_ir _)
theorem mxF_1 (f : Nat → Int64) : mxF f 1 = 0 := if_neg (l_ir _)
theorem dmF_lt (f : Nat → Int64) : ∀ {k : Nat}, 0 < k → dmF f k < k
  | k+1, _ => by
    show (if f k < f (dmF f k) then k else dmF f k) < k + 1
    split
    · omega
    · cases k with
      | zero => exact Nat.zero_lt_one
      | succ k => have := dmF_lt f (k := k + 1) (by omega); omega
theorem mxF_lt (f : Nat → Int64) : ∀ {k : Nat}, 0 < k → mxF f k < k
  | k+1, _ => by
    show (if f (mxF f k) < f k then k else mxF f k) < k + 1
    split
    · omega
    · cases k with
      | zero => exact Nat.zero_lt_one
      | succ k => have := mxF_lt f (k := k + 1) (by omega); omega
def dmC (B : Bd) (L C : List Nat) (sl : Nat → Nat) : Nat := dmF (fun k => smS (fun t => lgS B L C t k) sl L.length) C.length
def mxC (B : Bd) (L C : List Nat) (d : Nat) : Nat := mxF (fun t => lgS B L C t d) L.length
def slR (B : Bd) (L C : List Nat) : Nat → Nat → Nat
  | 0 => fun _ => 1
  | n+1 => inc (slR B L C n) (mxC B L C (dmC B L C (slR B L C n)))
theorem slR_le (B : Bd) (L C : List Nat) : ∀ n t, slR B L C n t ≤ n + 1
  | 0, _ => Nat.le_refl _
  | n+1, t => by
    have := slR_le B L C n t
    show inc (slR B L C n) _ t ≤ n + 2
    unfold inc
    split <;> omega
-- the class
abbrev lsW : Pl := [(x_parting_lights, none), (x_parting_sums, none)]
theorem X4_take_48 {B : Bd} {L C : List Nat} (hC : C.length ≤ 12) (h60 : ∀ k, k < C.length → C.getD k 0 < 60) {t : Nat} (ht : t < 12) {I : HI} (hm : mbX C I) (J0 : HJ) (hlt : ∀ k, k < C.length → J0 x_flow_light (C.getD k 0) = lgS B L C t k) {kx : HJ → Option (Unit × HI × HJ)} {Q : Unit × HI × HJ → Prop} (hx : ∀ J, Sm lsW J0 J → (∀ t' k, t' ≤ t → k < C.length → (t' < t → J0 x_parting_lights (t' * 12 + k) = lgS B L C t' k) → J x_parting_lights (t' * 12 + k) = lgS B L C t' k) → (∀ k, k < C.length → J x_parting_sums k = smS (fun t => lgS B L C t k) (fun _ => 1) (t + 1)) → Ok (kx J) Q) : ∀ K k, k ≤ C.length → C.length - k < K → ∀ J, Sm lsW J0 J → (∀ t' k', t' < t → k' < 12 → J x_parting_lights (t' * 12 + k') = J0 x_parting_lights (t' * 12 + k')) → (∀ k', k' < k → J x_parting_lights (t * 12 + k') = lgS B L C t k') → (∀ k', k' < C.length → J x_parting_sums k' = smS (fun t => lgS B L C t k') (fun _ => 1) (if k' < k then t + 1 else t)) → Ok (F_X4_takeLights_L48 (nI t) I kx K (nI k) J) Q := by
  refine up ?_ ?_
  · intro K J s1 s2 s3 s4
    rw [F_X4_takeLights_L48]
    refine Ok.t (by rw [hm.1, n_le] <;> omega) (hx J s1 (fun t' k ht' hk h => ?_) (fun k hk => ?_))
    · by_cases c : t' = t
      · rw [c]; exact s3 k hk
      · rw [s2 t' k (by omega) (by omega)]; exact h (by omega)
    · rw [s4 k hk, if_pos hk]
  · intro K k hk ih J s1 s2 s3 s4
    have hck := h60 k hk
    rw [F_X4_takeLights_L48]
    refine Ok.f (by rw [hm.1, n_le] <;> omega) (Ok.bxe (by omega) (by omega) ?_)
    rw [n_cl (by omega), hm.2 k hk, show (12 : Int32) = nI 12 from rfl, n_mul, nI_add, nI_1]
    have hlk : J x_flow_light (C.getD k 0) = lgS B L C t k := by rw [s1 _ _ rfl]; exact hlt k hk
    refine Ok.bxe (by omega) (by omega) (Ok.bxe (by omega) (by omega) (Ok.lbv (Ok.bxe (by omega) (by omega) (Ok.bxe (by omega) (by omega) (Ok.bxe (by omega) (by omega) (Ok.bxe (by omega) (by omega) (Ok.lbv ?_)))))))
    rw [n_cl (by omega), n_cl (by omega), hlk, uj_c (show x_flow_light ≠ x_parting_lights by decide), hlk, uj_c (show x_parting_sums ≠ x_parting_lights by decide)]
    have s4k := s4 k hk
    rw [if_neg (Nat.lt_irrefl _)] at s4k
    refine ih _ (Sm.mj rfl (Sm.mj rfl s1)) (fun t' k' ht' hk' => ?_) (fun k' hk' => ?_) (fun k' hk' => ?_)
    · rw [uj_c (by decide), uj_j (by omega)]; exact s2 t' k' ht' hk'
    · rw [uj_c (by decide), uj_s]
      by_cases c : k' = k
      · rw [c, if_pos rfl]
      · rw [if_neg (by omega)]; exact s3 k' (by omega)
    · rw [uj_s]
      by_cases c : k' = k
      · rw [if_pos c, c, if_pos (by omega), s4k, smS_1]
      · rw [if_neg c, uj_c (by decide), s4 k' hk']
        by_cases d : k' < k
        · rw [if_pos d, if_pos (by omega)]
        · rw [if_neg d, if_neg (by omega)]
theorem X4_takeLights {B : Bd} (hB : OkB B) (hW : bW B ≤ 7) {L C : List Nat} (hL : L.length ≤ 12) (hl : ∀ e, e ∈ L → e < 3 ^ bW B) (hC : C.length ≤ 12) (h60 : ∀ k, k < C.length → C.getD k 0 < 60) (I : HI) (J : HJ) (hX : XB B I J) (hF : CFlow I J) (hm : mbX C I) (hn : tnX L I) (htw : twX (bW B) I) (hs : ∀ k, k < 12 → J x_parting_sums k = 0) : Ok (F_X4_takeLights I J) (fun q => CFlow q.2.1 q.2.2 ∧ (∀ t k, t < L.length → k < C.length → q.2.2 x_parting_lights (t * 12 + k) = lgS B L C t k) ∧ ∀ k, k < C.length → q.2.2 x_parting_sums k = smS (fun t => lgS B L C t k) (fun _ => 1) L.length) := by
  have h3 := p3_le hW
  unfold F_X4_takeLights
  have lp : ∀ K t, t ≤ L.length → L.length - t < K → ∀ I' J', XB B I' J' → CFlow I' J' → mbX C I' → tnX L I' → twX (bW B) I' → (∀ t' k, t' < t → k < C.length → J' x_parting_lights (t' * 12 + k) = lgS B L C t' k) → (∀ k, k < C.length → J' x_parting_sums k = smS (fun t => lgS B L C t k) (fun _ => 1) t) → Ok (F_X4_takeLights_L2 K (nI t) I' J') (fun q => CFlow q.2.1 q.2.2 ∧ (∀ t k, t < L.length → k < C.length → q.2.2 x_parting_lights (t * 12 + k) = lgS B L C t k) ∧ ∀ k, k < C.length → q.2.2 x_parting_sums k = smS (fun t => lgS B L C t k) (fun _ => 1) L.length) := by
    refine up ?_ ?_
    · intro K I' J' _ hF' _ hn' _ h5 h6
      rw [F_X4_takeLights_L2]
      exact Ok.t (by rw [hn'.1, n_le] <;> omega) (Ok.mk ⟨hF', h5, h6⟩)
    · intro K t ht ih I' J' hX' hF' hm' hn' htw' h5 h6
      have hlt := hl _ (nat_getD_m ht)
      have hok := wr_ok (bW B) (L.getD t 0) hB.2.1
      rw [F_X4_takeLights_L2]
      refine Ok.f (by rw [hn'.1, n_le] <;> omega) (Ok.bxe (by omega) (by omega) ?_)
      rw [n_cl (by omega), hn'.2 t ht]
      refine Ok.bxe (by omega) (by omega) (Ok.bxe (by omega) (by omega) (Ok.bxe (by omega) (by omega) ?_))
      rw [n_cl (by omega), (htw' _ hlt).1, (htw' _ hlt).2]
      refine Ok.call ((X1_glowingF hB _ _ hok.1 I' J' hX' hF').fo (fr_X1_glowing _ _ I' J')) (fun r I2 J2 _ hP => ?_)
      obtain ⟨hq, s1, s2⟩ := hP
      have hfl := gQ_flow hB (nF_0 B) hok.1 hq
      have hrx := hq.2.1
      simp only at s1 s2 hfl hrx
      have hm2 : mbX C I2 := ⟨by rw [s1 _ _ rfl]; exact hm'.1, fun k hk => by rw [s1 _ _ rfl]; exact hm'.2 k hk⟩
      have hn2 : tnX L I2 := ⟨by rw [s1 _ _ rfl]; exact hn'.1, fun k hk => by rw [s1 _ _ rfl]; exact hn'.2 k hk⟩
      have htw2 : twX (bW B) I2 := fun s hs => by rw [s1 x_table_high _ rfl, s1 x_table_low _ rfl]; exact htw' s hs
      rw [nI_1]
      refine X4_take_48 (B := B) (L := L) hC h60 (show t < 12 by omega) hm2 J2 (fun k hk => hrx _ (by have := h60 k hk; omega)) (fun J3 a1 a2 a3 => ?_) bgf 0 (Nat.zero_le _) (by unfold bgf; omega) J2 Sm.rf (fun _ _ _ _ => rfl) (fun k' h => absurd h (Nat.not_lt_zero _)) (fun k' hk' => ?_)
      · refine ih I2 J3 (hX'.keep (Ag.of s1 (by decide)) (Ag.two s2 a1 (by decide) (by decide))) (hfl.keep (fun _ _ _ => rfl) (Ag.of a1 (by decide))) hm2 hn2 htw2 (fun t' k ht' hk => a2 t' k (by omega) hk (fun h => by rw [s2 _ _ rfl]; exact h5 t' k h hk)) a3
      · rw [s2 _ _ rfl, if_neg (Nat.not_lt_zero _)]; exact h6 k' hk'
  exact lp bgf 0 (Nat.zero_le _) (by unfold bgf; omega) I J hX hF hm hn htw (fun _ _ h => absurd h (Nat.not_lt_zero _)) (fun k hk => hs k (by omega))
theorem X4_dimmest {C : List Nat} (hC : C.length ≤ 12) (hC0 : 0 < C.length) {f : Nat → Int64} {I : HI} {J : HJ} (hm : mbX C I) (hs : ∀ k, k < C.length → J x_parting_sums k = f k) : F_X4_dimmest I J = some (nI (dmF f C.length)) := by
  unfold F_X4_dimmest
  have lp : ∀ K k, k ≤ C.length → C.length - k < K → 0 < k → F_X4_dimmest_L4 I J K (nI (dmF f k)) (nI k) = some (nI (dmF f C.length)) := by
    refine up ?_ ?_
    · intro K _
      rw [F_X4_dimmest_L4, hm.1, if_pos (by rw [n_le] <;> omega)]
    · intro K k hk ih h0
      have hd := dmF_lt f h0
      rw [F_X4_dimmest_L4, hm.1, if_neg (by rw [n_le] <;> omega), n_bx (by omega) (by omega), n_bx (by omega) (by omega), n_cl (by omega), n_cl (by omega), hs k hk, hs _ (by omega), nI_1]
      simp only [lb]
      have ih := ih (by omega)
      rw [show dmF f (k + 1) = if f k < f (dmF f k) then k else dmF f k from rfl] at ih
      by_cases c : f k < f (dmF f k)
      · rw [if_pos c] at ih
        rw [if_neg (fun h => by have := (cmge (x := f k) (y := f (dmF f k))).mp h; rw [l_le] at this; rw [l_lt] at c; omega)]
        exact ih
      · rw [if_neg c] at ih
        rw [if_pos (show (0 : Int32) ≤ lg_cmp (f k) (f (dmF f k)) from (cmge (x := f k) (y := f (dmF f k))).mpr (by rw [l_le]; rw [l_lt] at c; omega))]
        exact ih
  have := lp bgf 1 (by omega) (by unfold bgf; omega) (by omega)
  rw [dmF_1] at this
  exact this
theorem X4_brightest {L : List Nat} (hL : L.length ≤ 12) (hL0 : 0 < L.length) {d : Nat} (hd : d < 12) {g : Nat → Int64} {I : HI} {J : HJ} (hn : tnX L I) (hs : ∀ t, t < L.length → J x_parting_lights (t * 12 + d) = g t) : F_X4_brightestTurn (nI d) I J = some (nI (mxF g L.length)) := by
  unfold F_X4_brightestTurn
  have lp : ∀ K k, k ≤ L.length → L.length - k < K → 0 < k → F_X4_brightestTurn_L4 (nI d) I J K (nI (mxF g k)) (nI k) = some (nI (mxF g L.length)) := by
    refine up ?_ ?_
    · intro K _
      rw [F_X4_brightestTurn_L4, hn.1, if_pos (by rw [n_le] <;> omega)]
    · intro K k hk ih h0
      have hd := mxF_lt g h0
      rw [F_X4_brightestTurn_L4, hn.1, if_neg (by rw [n_le] <;> omega), show (12 : Int32) = nI 12 from rfl, n_mul, n_mul, nI_add, nI_add, n_bx (by omega) (by omega), n_bx (by omega) (by omega), n_cl (by omega), n_cl (by omega), hs k hk, hs _ (by omega), nI_1]
      simp only [lb]
      have ih := ih (by omega)
      rw [show mxF g (k + 1) = if g (mxF g k) < g k then k else mxF g k from rfl] at ih
      by_cases c : g (mxF g k) < g k
      · rw [if_pos c] at ih
        rw [if_neg (fun h => by have := (cmle (x := g k) (y := g (mxF g k))).mp h; rw [l_le] at this; rw [l_lt] at c; omega)]
        exact ih
      · rw [if_neg c] at ih
        rw [if_pos (show lg_cmp (g k) (g (mxF g k)) ≤ (0 : Int32) from (cmle (x := g k) (y := g (mxF g k))).mpr (by rw [l_le]; rw [l_lt] at c; omega))]
        exact ih
  have := lp bgf 1 (by omega) (by unfold bgf; omega) (by omega)
  rw [mxF_1] at this
  exact this
theorem X4_give_76 {B : Bd} {L C : List Nat} (hC : C.length ≤ 12) {l1 l2 : Int32} {t : Nat} (ht : t < 12) {I : HI} (hm : mbX C I) (J0 : HJ) (hlt : ∀ k, k < C.length → J0 x_parting_lights (t * 12 + k) = lgS B L C t k) {kx : HJ → Option (Int64 × HI × HJ)} {Q : Int64 × HI × HJ → Prop} (hx : ∀ J, Sm [(x_parting_sums, none)] J0 J → (∀ k, k < C.length → J x_parting_sums k = J0 x_parting_sums k + lgS B L C t k) → Ok (kx J) Q) : ∀ K k, k ≤ C.length → C.length - k < K → ∀ J, Sm [(x_parting_sums, none)] J0 J → (∀ k', k' < C.length → J x_parting_sums k' = if k' < k then J0 x_parting_sums k' + lgS B L C t k' else J0 x_parting_sums k') → Ok (F_X4_giveSlots_L76 l1 l2 (nI t) I kx K (nI k) J) Q := by
  refine up ?_ ?_
  · intro K J s1 s2
    rw [F_X4_giveSlots_L76]
    exact Ok.t (by rw [hm.1, n_le] <;> omega) (hx J s1 (fun k hk => by rw [s2 k hk, if_pos hk]))
  · intro K k hk ih J s1 s2
    rw [F_X4_giveSlots_L76]
    refine Ok.f (by rw [hm.1, n_le] <;> omega) (Ok.bxe (by omega) (by omega) ?_)
    rw [show (12 : Int32) = nI 12 from rfl, n_mul, nI_add, nI_1]
    refine Ok.bxe (by omega) (by omega) (Ok.bxe (by omega) (by omega) (Ok.lbv ?_))
    have s2k := s2 k hk
    rw [if_neg (Nat.lt_irrefl _)] at s2k
    rw [n_cl (by omega), n_cl (by omega), s1 x_parting_lights _ rfl, hlt k hk, s2k]
    refine ih _ (Sm.mj rfl s1) (fun k' hk' => ?_)
    rw [uj_s]
    by_cases c : k' = k
    · rw [if_pos c, c, if_pos (by omega)]
    · rw [if_neg c, s2 k' hk']
      by_cases d : k' < k
      · rw [if_pos d, if_pos (by omega)]
      · rw [if_neg d, if_neg (by omega)]

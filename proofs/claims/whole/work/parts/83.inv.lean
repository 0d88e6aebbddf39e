/-! LAYER 2: the invariant -/
def okSt (W : Nat) (h l : Int32) : Prop := okS (bi h) (bi l) ∧ ∀ w, W ≤ w → bi h w = false ∧ bi l w = false
def okLp (L : Nat) (x : Int64) : Prop := ∀ k, L ≤ k → bt x k = false
def NTC (W L : Nat) (xh xl xn mh ml mn : Int32) (xp mp : Nat → Int64) (xa ma xb mb : Nat → Int32) (xg mg : Nat → Int64) : Prop :=
  mh = xh ∧ ml = xl ∧ okSt W xh xl ∧ (∀ i, i < 4 → mp i = xp i ∧ okLp L (xp i)) ∧ ∃ n, n ≤ 12 ∧ xn = nI n ∧ mn = nI n ∧ ∀ k, k < n → ma k = xa k ∧ mb k = xb k ∧ mg k = xg k ∧ okSt W (xa k) (xb k)
def CNote (B : Bd) (I : HI) (J : HJ) : Prop := NTC (bW B) (bL B) (I x_notes f_Notes_high) (I x_notes f_Notes_low) (I x_notes f_Notes_seenSize) (I m_self f_Model_shownHigh) (I m_self f_Model_shownLow) (I m_self f_Model_seenMany) (J x_notes_pictures) (J m_pictures) (I x_notes_seenHigh) (I m_seenHigh) (I x_notes_seenLow) (I m_seenLow) (J x_notes_seenLamps) (J m_seenLamps)
def rdNi : Pl := [(x_notes, none), (m_self, some f_Model_shownHigh), (m_self, some f_Model_shownLow), (m_self, some f_Model_seenMany), (x_notes_seenHigh, none), (m_seenHigh, none), (x_notes_seenLow, none), (m_seenLow, none)]
def rdNj : Pl := [(x_notes_pictures, none), (m_pictures, none), (x_notes_seenLamps, none), (m_seenLamps, none)]
theorem Ag.c {α : Type} {rd : Pl} {I I' : Nat → Nat → α} (a : Ag rd I I') {c : Nat} (h : ∀ j, inW rd c j = true) : I' c = I c := funext (fun j => a c j (h j))
theorem CNote.keep {B : Bd} {I I' : HI} {J J' : HJ} (h : CNote B I J) (a : Ag rdNi I I') (b : Ag rdNj J J') : CNote B I' J' := by
  unfold CNote at *
  rw [a x_notes f_Notes_high rfl, a x_notes f_Notes_low rfl, a x_notes f_Notes_seenSize rfl, a m_self f_Model_shownHigh rfl, a m_self f_Model_shownLow rfl, a m_self f_Model_seenMany rfl, a.c (c := x_notes_seenHigh) (fun _ => rfl), a.c (c := m_seenHigh) (fun _ => rfl), a.c (c := x_notes_seenLow) (fun _ => rfl), a.c (c := m_seenLow) (fun _ => rfl), b.c (c := x_notes_pictures) (fun _ => rfl), b.c (c := m_pictures) (fun _ => rfl), b.c (c := x_notes_seenLamps) (fun _ => rfl), b.c (c := m_seenLamps) (fun _ => rfl)]
  exact h
def CTold (I : HI) (J : HJ) : Prop := ∃ n, n ≤ 16 ∧ I x_told f_Told_size = nI n ∧ I m_self f_Model_rowMany = nI n ∧ ∀ k, k < n → J m_row k = J x_told_numbers k
def rdTi : Pl := [(x_told, none), (m_self, some f_Model_rowMany)]
def rdTj : Pl := [(x_told_numbers, none), (m_row, none)]
theorem CTold.keep {I I' : HI} {J J' : HJ} (h : CTold I J) (a : Ag rdTi I I') (b : Ag rdTj J J') : CTold I' J' := by
  obtain ⟨n, h1, h2, h3, h4⟩ := h
  exact ⟨n, h1, by rw [a _ _ rfl]; exact h2, by rw [a _ _ rfl]; exact h3, fun k hk => by rw [b m_row _ rfl, b x_told_numbers _ rfl]; exact h4 k hk⟩
def CPlan (B : Bd) (I : HI) : Prop := ∃ n, n ≤ 8 ∧ I x_plan f_Plan_tests = nI n ∧ I m_self f_Model_testMany = nI n ∧ ∀ k, k < n → I m_testHigh k = I x_plan_testHigh k ∧ I m_testLow k = I x_plan_testLow k ∧ okSt (bW B) (I x_plan_testHigh k) (I x_plan_testLow k)
def rdPi : Pl := [(x_plan, some f_Plan_tests), (m_self, some f_Model_testMany), (x_plan_testHigh, none), (x_plan_testLow, none), (m_testHigh, none), (m_testLow, none)]
theorem CPlan.keep {B : Bd} {I I' : HI} (h : CPlan B I) (a : Ag rdPi I I') : CPlan B I' := by
  obtain ⟨n, h1, h2, h3, h4⟩ := h
  refine ⟨n, h1, by rw [a _ _ rfl]; exact h2, by rw [a _ _ rfl]; exact h3, fun k hk => ?_⟩
  rw [a m_testHigh _ rfl, a m_testLow _ rfl, a x_plan_testHigh _ rfl, a x_plan_testLow _ rfl]; exact h4 k hk
/-- one of the kept: i its number; the class's cells -/
def KPt (W i ck cf cg cv cn cp ca cb cl : Nat) (I : HI) (J : HJ) : Prop :=
  ∃ n, n ≤ 60 ∧ I ck f_Kept_lamps = nI n ∧ I m_kept (208 * i + 180) = nI n ∧ (∀ l, l < n → ∃ a g v, a < W ∧ g < W ∧ a ≠ g ∧ 1 ≤ v ∧ v ≤ 9 ∧ I cf l = nI a ∧ I m_kept (208 * i + 3 * l) = nI a ∧ I cg l = nI g ∧ I m_kept (208 * i + 3 * l + 1) = nI g ∧ I cv l = nI v ∧ I m_kept (208 * i + 3 * l + 2) = nI v) ∧
  NTC W n (I cn f_Notes_high) (I cn f_Notes_low) (I cn f_Notes_seenSize) (I m_kept (208 * i + 181)) (I m_kept (208 * i + 182)) (I m_kept (208 * i + 183)) (J cp) (fun q => J m_keptSets (16 * i + q)) (I ca) (fun s => I m_kept (208 * i + 184 + 2 * s)) (I cb) (fun s => I m_kept (208 * i + 185 + 2 * s)) (J cl) (fun s => J m_keptSets (16 * i + 4 + s))
def KP (B : Bd) (nb i ck cf cg cv cn cp ca cb cl : Nat) (I : HI) (J : HJ) : Prop :=
  ∃ p : Bool, I ck f_Kept_full = b1 p ∧ (p = true → I m_isKept i = nI 1 ∧ I m_keptBoards i = nI nb ∧ KPt (bW B) i ck cf cg cv cn cp ca cb cl I J) ∧
   (p = false → I m_isKept i = nI 0 ∨ (I m_isKept i = nI 1 ∧ ∃ kb, kb < nb ∧ I m_keptBoards i = nI kb))
def KP0 (B : Bd) (nb : Nat) (I : HI) (J : HJ) : Prop := KP B nb 0 x_kept_0 x_kept_0_from x_kept_0_goal x_kept_0_volts x_kept_0_notes x_kept_0_notes_pictures x_kept_0_notes_seenHigh x_kept_0_notes_seenLow x_kept_0_notes_seenLamps I J
def KP1 (B : Bd) (nb : Nat) (I : HI) (J : HJ) : Prop := KP B nb 1 x_kept_1 x_kept_1_from x_kept_1_goal x_kept_1_volts x_kept_1_notes x_kept_1_notes_pictures x_kept_1_notes_seenHigh x_kept_1_notes_seenLow x_kept_1_notes_seenLamps I J
theorem KP.keep {B : Bd} {nb i ck cf cg cv cn cp ca cb cl : Nat} {I I' : HI} {J J' : HJ} (h : KP B nb i ck cf cg cv cn cp ca cb cl I J) (e1 : I' ck = I ck) (e2 : I' cf = I cf) (e3 : I' cg = I cg) (e4 : I' cv = I cv) (e5 : I' cn = I cn) (e6 : J' cp = J cp) (e7 : I' ca = I ca) (e8 : I' cb = I cb) (e9 : J' cl = J cl) (m1 : I' m_isKept = I m_isKept) (m2 : I' m_keptBoards = I m_keptBoards) (m3 : I' m_kept = I m_kept) (m4 : J' m_keptSets = J m_keptSets) : KP B nb i ck cf cg cv cn cp ca cb cl I' J' := by
  unfold KP KPt at *
  rw [e1, e2, e3, e4, e5, e6, e7, e8, e9, m1, m2, m3, m4]
  exact h
def rdK0i : Pl := [(x_kept_0, none), (x_kept_0_from, none), (x_kept_0_goal, none), (x_kept_0_volts, none), (x_kept_0_notes, none), (x_kept_0_notes_seenHigh, none), (x_kept_0_notes_seenLow, none), (m_isKept, none), (m_keptBoards, none), (m_kept, none)]
def rdK0j : Pl := [(x_kept_0_notes_pictures, none), (x_kept_0_notes_seenLamps, none), (m_keptSets, none)]
def rdK1i : Pl := [(x_kept_1, none), (x_kept_1_from, none), (x_kept_1_goal, none), (x_kept_1_volts, none), (x_kept_1_notes, none), (x_kept_1_notes_seenHigh, none), (x_kept_1_notes_seenLow, none), (m_isKept, none), (m_keptBoards, none), (m_kept, none)]
def rdK1j : Pl := [(x_kept_1_notes_pictures, none), (x_kept_1_notes_seenLamps, none), (m_keptSets, none)]
theorem KP0.keep {B : Bd} {nb : Nat} {I I' : HI} {J J' : HJ} (h : KP0 B nb I J) (a : Ag rdK0i I I') (b : Ag rdK0j J J') : KP0 B nb I' J' :=
  KP.keep h (a.c (fun _ => rfl)) (a.c (fun _ => rfl)) (a.c (fun _ => rfl)) (a.c (fun _ => rfl)) (a.c (fun _ => rfl)) (b.c (fun _ => rfl)) (a.c (fun _ => rfl)) (a.c (fun _ => rfl)) (b.c (fun _ => rfl)) (a.c (fun _ => rfl)) (a.c (fun _ => rfl)) (a.c (fun _ => rfl)) (b.c (fun _ => rfl))
theorem KP1.keep {B : Bd} {nb : Nat} {I I' : HI} {J J' : HJ} (h : KP1 B nb I J) (a : Ag rdK1i I I') (b : Ag rdK1j J J') : KP1 B nb I' J' :=
  KP.keep h (a.c (fun _ => rfl)) (a.c (fun _ => rfl)) (a.c (fun _ => rfl)) (a.c (fun _ => rfl)) (a.c (fun _ => rfl)) (b.c (fun _ => rfl)) (a.c (fun _ => rfl)) (a.c (fun _ => rfl)) (b.c (fun _ => rfl)) (a.c (fun _ => rfl)) (a.c (fun _ => rfl)) (a.c (fun _ => rfl)) (b.c (fun _ => rfl))
-- settings by their numbers
def wrF (d : Nat) : Nat → Nat → Int32 → Int32
  | 0, _, acc => acc
  | w+1, r, acc => wrF d w (r / 3) (if r % 3 = d then acc ||| oshl (nI 1) (nI w) else acc)
def wr (W d s : Nat) : Int32 := wrF d W s (nI 0)
def gS (B : Bd) (f s : Nat) : Int64 := gwF B f (bi (wr (bW B) 1 s)) (bi (wr (bW B) 2 s))
/-- the lamps that are asked for -/
def asS (B : Bd) (h l : Nat → Bool) : Int64 := stN (bL B) (fun k => h (bA B k) && l (bG B k))
def clS (B : Bd) (s : Nat) : Bool := decide (gS B 0 s &&& (asS B (bi (wr (bW B) 1 s)) (bi (wr (bW B) 2 s)) ^^^ (-lN 1)) = lN 0)
def tabOk (B : Bd) (I : HI) (J : HJ) : Prop := bW B ≤ 7 ∧ I x_table f_Table_size = nI (3 ^ bW B) ∧ (∀ s, s < 3 ^ bW B → J x_table_glow s = gS B 0 s ∧ I x_table_clean s = b1 (clS B s)) ∧ ∀ s, s < 3 ^ bW B → I x_table_high s = wr (bW B) 1 s ∧ I x_table_low s = wr (bW B) 2 s
def CTab (B : Bd) (I : HI) (J : HJ) : Prop := ∃ p : Bool, I x_table f_Table_fresh = b1 p ∧ (p = true → tabOk B I J)
def rdTbi : Pl := [(x_table, none), (x_table_clean, none), (x_table_high, none), (x_table_low, none)]
def rdTbj : Pl := [(x_table_glow, none)]
theorem tabOk.keep {B : Bd} {I I' : HI} {J J' : HJ} (h : tabOk B I J) (a : Ag rdTbi I I') (b : Ag rdTbj J J') : tabOk B I' J' := by
  obtain ⟨h1, h2, h3, h4⟩ := h
  exact ⟨h1, by rw [a _ _ rfl]; exact h2, fun s hs => by rw [a _ _ rfl, b _ _ rfl]; exact h3 s hs, fun s hs => by rw [a x_table_high _ rfl, a x_table_low _ rfl]; exact h4 s hs⟩
theorem CTab.keep {B : Bd} {I I' : HI} {J J' : HJ} (h : CTab B I J) (a : Ag rdTbi I I') (b : Ag rdTbj J J') : CTab B I' J' := by
  obtain ⟨p, h1, h2⟩ := h
  exact ⟨p, by rw [a _ _ rfl]; exact h1, fun hp => (h2 hp).keep a b⟩
def CFlow (I : HI) (J : HJ) : Prop := litOk J ∧ I x_flow f_Flow_watched = -nI 1
theorem CFlow.keep {I I' : HI} {J J' : HJ} (h : CFlow I J) (a : Ag [(x_flow, some f_Flow_watched)] I I') (b : Ag [(x_flow, some f_Flow_lit), (x_flow_light, none)] J J') : CFlow I' J' := ⟨litOk_k h.1 b, by rw [a _ _ rfl]; exact h.2⟩
theorem CFlow.wt {I : HI} {J : HJ} (h : CFlow I J) : wt0 none I J := ⟨h.2, fun a ha => by cases ha⟩
def CMod (I : HI) : Prop := I m_self f_Model_isCounted = nI 0 ∧ I m_self f_Model_asked = -nI 1
def rdMo : Pl := [(m_self, some f_Model_isCounted), (m_self, some f_Model_asked)]
theorem CMod.keep {I I' : HI} (h : CMod I) (a : Ag rdMo I I') : CMod I' := ⟨by rw [a _ _ rfl]; exact h.1, by rw [a _ _ rfl]; exact h.2⟩
theorem CMod.c0 {I : HI} {J : HJ} (h : CMod I) : c0M false none I J := ⟨h.1, h.2, fun h => by cases h⟩
def CBds (n nb : Nat) (I : HI) : Prop := I m_self f_Model_boards = nI nb ∧ nb + 100 * n ≤ 6500
def IV (n : Nat) (B : Bd) (nb : Nat) (I : HI) (J : HJ) : Prop := OkB B ∧ XB B I J ∧ MB B I ∧ CText I ∧ CNote B I J ∧ CTold I J ∧ CPlan B I ∧ KP0 B nb I J ∧ KP1 B nb I J ∧ CTab B I J ∧ CFlow I J ∧ CMod I ∧ CBds n nb I
def Iv (n : Nat) (_ : Bool) (I : HI) (J : HJ) : Prop := ∃ B nb, IV n B nb I J
theorem Iv_mono (n : Nat) (b : Bool) (I : HI) (J : HJ) (h : Iv (n + 1) b I J) : Iv n b I J := by
  obtain ⟨B, nb, h1, h2, h3, h4, h5, h6, h7, h8, h9, h10, h11, h12, h13⟩ := h
  exact ⟨B, nb, h1, h2, h3, h4, h5, h6, h7, h8, h9, h10, h11, h12, h13.1, by have := h13.2; omega⟩
/-- two frames, one behind the other -/
theorem Ag.two {α : Type} {rd w1 w2 : Pl} {I I1 I2 : Nat → Nat → α} (s1 : Sm w1 I I1) (s2 : Sm w2 I1 I2) (d1 : disW rd w1 = true) (d2 : disW rd w2 = true) : Ag rd I I2 := fun c j h => by
  rw [Ag.of s2 d2 c j h, Ag.of s1 d1 c j h]
theorem Ag.tr {α : Type} {rd : Pl} {I I1 I2 : Nat → Nat → α} (a : Ag rd I I1) (b : Ag rd I1 I2) : Ag rd I I2 := fun c j h => by rw [b c j h, a c j h]
theorem CBds.keep {n nb : Nat} {I I' : HI} (h : CBds (n + 1) nb I) (a : Ag [(m_self, some f_Model_boards)] I I') : CBds n nb I' := ⟨by rw [a _ _ rfl]; exact h.1, by have := h.2; omega⟩

/-! LAYER 2: the board, the paths and what they carry, by numbers alone -/
abbrev Bd : Type := Nat → Nat → Nat
abbrev bW (B : Bd) : Nat := B 0 0
abbrev bL (B : Bd) : Nat := B 0 1
abbrev bS (B : Bd) : Nat := B 0 2
abbrev bD (B : Bd) : Nat := B 0 3
abbrev bF (B : Bd) : Nat := B 0 4
abbrev bO (B : Bd) (w : Nat) : Nat := B 1 w
abbrev bA (B : Bd) (l : Nat) : Nat := B 2 l
abbrev bG (B : Bd) (l : Nat) : Nat := B 3 l
abbrev bV (B : Bd) (l : Nat) : Nat := B 4 l
def OkB (B : Bd) : Prop := 2 ≤ bW B ∧ bW B ≤ 10 ∧ bL B ≤ 60 ∧ 1 ≤ bS B ∧ bS B ≤ 20 ∧ 1 ≤ bD B ∧ bD B ≤ 3 ∧ bF B ≤ 99 ∧ (∀ w, w < 10 → bO B w ≤ 4) ∧ ∀ l, l < bL B → bA B l < bW B ∧ bG B l < bW B ∧ bA B l ≠ bG B l ∧ 1 ≤ bV B l ∧ bV B l ≤ 9
/-- the ends of a lamp by a fault of kind k: 0 none, 1 cut a, 2 a and b touch, 3 lamp a turned -/
def ed (B : Bd) (k a b l : Nat) : Option (Nat × Nat) :=
  if k = 1 then (if bA B l = a ∨ bG B l = a then none else some (bA B l, bG B l))
  else if k = 2 then (if (if bA B l = b then a else bA B l) = (if bG B l = b then a else bG B l) then none else some ((if bA B l = b then a else bA B l), (if bG B l = b then a else bG B l)))
  else if k = 3 ∧ l = a then some (bG B l, bA B l)
  else some (bA B l, bG B l)
def hiE (k a b : Nat) (h : Nat → Bool) (w : Nat) : Bool := if k = 2 then (if w = b then false else if w = a then (h a || h b) else h w) else h w
def cfl (k a b : Nat) (h l : Nat → Bool) : Bool := decide (k = 2) && ((h a && l b) || (l a && h b))
def ohE (B : Bd) (k a b : Nat) (h l : Nat → Bool) (w : Nat) : Nat := if k = 2 ∧ w = a ∧ (h a || l a) = false then bO B b else bO B w
/-- a path: from, lamps, to, what it carries -/
abbrev Pa : Type := Nat × List Nat × Nat × Nat
def wk (B : Bd) (e : Nat → Option (Nat × Nat)) (hi lo : Nat → Bool) : Nat → Nat → Nat → List Nat → List (List Nat × Nat × Nat)
  | 0, _, _, _ => []
  | n+1, w, s, p => (List.range (bL B)).flatMap (fun l =>
      match e l with
      | none => []
      | some (u, v) => if u = w ∧ hi v = false ∧ s + bV B l < bS B then
          (if lo v = true then [(p ++ [l], v, bS B - (s + bV B l))] else wk B e hi lo n v (s + bV B l) (p ++ [l])) else [])
def cy (o : Nat → Nat) (s : Nat) (q : List Nat × Nat × Nat) : Pa := (s, q.1, q.2.1, q.2.2 * (27720 / (o s + o q.2.1 + q.1.length)))
def paS (B : Bd) (e : Nat → Option (Nat × Nat)) (hi lo : Nat → Bool) (o : Nat → Nat) : List Pa := (List.range (bW B)).flatMap (fun w => if hi w then (wk B e hi lo (bD B) w 0 []).map (cy o w) else [])
def pths (B : Bd) (k a b : Nat) (h l : Nat → Bool) : List Pa := if cfl k a b h l then [] else paS B (ed B k a b) (hiE k a b h) (hiE k a b l) (ohE B k a b h l)
-- what paths give
def liT (ps : List Pa) (k : Nat) : Nat := (ps.map (fun q => q.2.2.2 * q.2.1.count k)).sum
def drT (ps : List Pa) (w : Nat) : Nat := (ps.map (fun q => (if q.1 = w then q.2.2.2 else 0) + (if q.2.2.1 = w then q.2.2.2 else 0))).sum
def onT (ps : List Pa) (k : Nat) : Bool := ps.any (fun q => q.2.1.contains k)
def psT (a : Nat) (ps : List Pa) : Nat := ps.countP (fun q => q.2.1.contains a)
/-- a row of lamps below another -/
def ltW : List Nat → List Nat → Bool
  | [], _ => false
  | _ :: _, [] => false
  | x :: p, y :: q => if x = y then ltW p q else decide (x < y)
def btr (c : Nat) (p : List Nat) (d : Nat) (q : List Nat) : Bool := if c = d then (if p.length = q.length then ltW p q else decide (p.length < q.length)) else decide (d < c)
def bs1 (a : Nat) (m : Nat × List Nat) (q : Pa) : Nat × List Nat := if q.2.1.contains a && btr q.2.2.2 q.2.1 m.1 m.2 then (q.2.2.2, q.2.1) else m
def bsT (a : Nat) (ps : List Pa) : Nat × List Nat := ps.foldl (bs1 a) (0, [])
theorem liT_a (ps qs : List Pa) (k : Nat) : liT (ps ++ qs) k = liT ps k + liT qs k := by unfold liT; rw [List.map_append, List.sum_append]
theorem drT_a (ps qs : List Pa) (k : Nat) : drT (ps ++ qs) k = drT ps k + drT qs k := by unfold drT; rw [List.map_append, List.sum_append]
theorem onT_a (ps qs : List Pa) (k : Nat) : onT (ps ++ qs) k = (onT ps k || onT qs k) := by unfold onT; rw [List.any_append]
theorem psT_a (a : Nat) (ps qs : List Pa) : psT a (ps ++ qs) = psT a ps + psT a qs := by unfold psT; rw [List.countP_append]
theorem bsT_a (a : Nat) (ps : List Pa) (q : Pa) : bsT a (ps ++ [q]) = bs1 a (bsT a ps) q := by unfold bsT; rw [List.foldl_append]; rfl
theorem liT_1 (q : Pa) (k : Nat) : liT [q] k = q.2.2.2 * q.2.1.count k := by simp [liT]
theorem drT_1 (q : Pa) (w : Nat) : drT [q] w = (if q.1 = w then q.2.2.2 else 0) + (if q.2.2.1 = w then q.2.2.2 else 0) := by simp [drT]
theorem onT_1 (q : Pa) (k : Nat) : onT [q] k = q.2.1.contains k := by simp [onT]
theorem psT_1 (a : Nat) (q : Pa) : psT a [q] = if q.2.1.contains a then 1 else 0 := by simp [psT, List.countP_cons]
def gwT (B : Bd) (ps : List Pa) : Int64 := stN (bL B) (fun l => decide (0 < liT ps l) && decide (bF B * 27720 ≤ 100 * liT ps l))
/-- the class's board -/
def XB (B : Bd) (I : HI) (J : HJ) : Prop :=
  I x_board f_Board_wide = nI (bW B) ∧ I x_board f_Board_lamps = nI (bL B) ∧ I x_board f_Board_supply = nI (bS B) ∧ I x_board f_Board_depth = nI (bD B) ∧ I x_board f_Board_faint = nI (bF B) ∧
  (∀ w, w < 10 → I x_board_ohms w = nI (bO B w)) ∧
  (∀ l, l < bL B → I x_board_from l = nI (bA B l) ∧ I x_board_goal l = nI (bG B l) ∧ I x_board_volts l = nI (bV B l)) ∧
  (∀ w, w < 10 → ∀ l, bt (J x_board_out w) l = (decide (l < bL B) && decide (bA B l = w)) ∧ bt (J x_board_into w) l = (decide (l < bL B) && decide (bG B l = w)))
def rdXBi : Pl := [(x_board, none), (x_board_ohms, none), (x_board_from, none), (x_board_goal, none), (x_board_volts, none)]
def rdXBj : Pl := [(x_board_out, none), (x_board_into, none)]
theorem XB.keep {B : Bd} {I I' : HI} {J J' : HJ} (h : XB B I J) (a : Ag rdXBi I I') (b : Ag rdXBj J J') : XB B I' J' := by
  obtain ⟨h1, h2, h3, h4, h5, h6, h7, h8⟩ := h
  refine ⟨by rw [a _ _ rfl]; exact h1, by rw [a _ _ rfl]; exact h2, by rw [a _ _ rfl]; exact h3, by rw [a _ _ rfl]; exact h4, by rw [a _ _ rfl]; exact h5, fun w hw => by rw [a _ _ rfl]; exact h6 w hw, fun l hl => ?_, fun w hw l => ?_⟩
  · rw [a x_board_from _ rfl, a x_board_goal _ rfl, a x_board_volts _ rfl]; exact h7 l hl
  · rw [b x_board_out _ rfl, b x_board_into _ rfl]; exact h8 w hw l
/-- the reference's board -/
def MB (B : Bd) (I : HI) : Prop :=
  I m_self f_Model_wide = nI (bW B) ∧ I m_self f_Model_lamps = nI (bL B) ∧ I m_sets 0 = nI (bS B) ∧ I m_sets 1 = nI (bD B) ∧ I m_sets 2 = nI (bF B) ∧
  (∀ w, w < 10 → I m_ohm w = nI (bO B w)) ∧
  (∀ l, l < bL B → I m_lampFrom l = nI (bA B l) ∧ I m_lampTo l = nI (bG B l) ∧ I m_volts l = nI (bV B l))
def rdMB : Pl := [(m_self, some f_Model_wide), (m_self, some f_Model_lamps), (m_sets, none), (m_ohm, none), (m_lampFrom, none), (m_lampTo, none), (m_volts, none)]
theorem MB.keep {B : Bd} {I I' : HI} (h : MB B I) (a : Ag rdMB I I') : MB B I' := by
  obtain ⟨h1, h2, h3, h4, h5, h6, h7⟩ := h
  refine ⟨by rw [a _ _ rfl]; exact h1, by rw [a _ _ rfl]; exact h2, by rw [a _ _ rfl]; exact h3, by rw [a _ _ rfl]; exact h4, by rw [a _ _ rfl]; exact h5, fun w hw => by rw [a _ _ rfl]; exact h6 w hw, fun l hl => ?_⟩
  rw [a m_lampFrom _ rfl, a m_lampTo _ rfl, a m_volts _ rfl]; exact h7 l hl

/-! the three helpers: 1 where it throws, else 0 and the answer in out[0] -/
theorem pn_L : plainName mL_lamp.1.cls = true := by decide +kernel
def hq_lamp (Z : List Kd) (I : HI) (J : HJ) (r : Option Int32) : Option Value → Hp → Prop := fun v g => match r with
  | some w => v = some (.int 0) ∧ g = (Z, I, uj J 128 0 (Int32.toInt64 w))
  | none => v = some (.int 1) ∧ g = (Z, I, J)
set_option maxRecDepth 100000 in
theorem gh_lamp (b : Bool) (l1 : Int32) (l2 : Int32) (I : HI) (J : HJ) (r : Option Int32) (hr : F_X11_lamp l1 l2 I J = some r) : GMH mL_lamp [(0, 10, 13, 13)] 8 1 6 [.ref 0, .int l1, .int l2, .ref 128] (zs b, I, J) (hq_lamp (zs b) I J r) := by
  refine GMH.of (d' := 7) (av' := [.int l1, .int l2]) (rs := [.int l2, .int l1]) (st := [.int 0, .ref 128]) (lv := [(0, .ref 0), (1, .int l1), (2, .int l2), (3, .ref 128)]) (i := 5) (i2 := 11) (b := 0) okL_lamp pn_L rfl rfl (Nat.le_of_ble_eq_true rfl) rfl rfl co_L_7 rfl rfl rfl rfl rfl ⟨⟨Nat.le_of_ble_eq_true rfl, Nat.le_of_ble_eq_true rfl⟩, ⟨Nat.le_of_ble_eq_true rfl, Nat.le_of_ble_eq_true rfl⟩, Nat.le_of_ble_eq_true rfl⟩ (by decide) (xm_X11_lamp b l1 l2 I J r hr) ?_ ?_ ?_ ?_
  · refine G.sub (lv' := [(0, .ref 0), (1, .int l1), (2, .int l2), (3, .ref 128)]) [0, 1, 2, 3] rfl ?_
    refine G.aload_n 0 3 rfl rfl ?_
    refine G.iconst (0 : Int32) 1 rfl (by decide) ?_
    refine G.aload_n 2 0 rfl rfl ?_
    refine G.iload_n 3 1 rfl rfl ?_
    refine G.iload_n 4 2 rfl rfl ?_
    exact G.exit ⟨rfl, rfl, rfl, rfl, rfl⟩
  · intro v hv
    cases r with
    | none => cases hv
    | some w =>
      cases hv
      refine G.i2l 6 rfl ?_
      refine G.last 7 rfl rfl (by unfold vp_in; decide) ?_
      refine G.goto 17 8 rfl (by decide) ?_
      refine G.iconst (0 : Int32) 12 rfl (by decide) ?_
      exact G.iret 13 rfl rfl rfl (Nat.le_refl _) (Nat.le_refl _) ⟨rfl, rfl⟩
  · intro hv
    cases r with
    | none => exact ⟨rfl, rfl⟩
    | some w => cases hv
  · intro p l e s m args below meth c Q' H locs cells slots ls lv q hx hb hl k
    refine lv_astore (lv' := (4, Value.ref q) :: lv.filter (fun z => !(z.1 == 4) && !(z.1 + 1 == 4 && z.2.category == 2))) hx hb (okL_lamp.at (i := 9) rfl) hl (by decide) rfl (fun ls2 hl2 => ?_)
    exact lv_iconst (v := 1) hx hb (okL_lamp.at (i := 10) rfl) (by decide) (k ls2)
def hq_fault (Z : List Kd) (I : HI) (J : HJ) (r : Option Int32) : Option Value → Hp → Prop := fun v g => match r with
  | some w => v = some (.int 0) ∧ g = (Z, I, uj J 128 0 (Int32.toInt64 w))
  | none => v = some (.int 1) ∧ g = (Z, I, J)
set_option maxRecDepth 100000 in
theorem gh_fault (b : Bool) (l1 : Int32) (l2 : Int32) (I : HI) (J : HJ) (r : Option Int32) (hr : F_X11_fault l1 l2 I J = some r) : GMH mL_fault [(0, 10, 13, 13)] 8 1 6 [.ref 0, .int l1, .int l2, .ref 128] (zs b, I, J) (hq_fault (zs b) I J r) := by
  refine GMH.of (d' := 7) (av' := [.int l1, .int l2]) (rs := [.int l2, .int l1]) (st := [.int 0, .ref 128]) (lv := [(0, .ref 0), (1, .int l1), (2, .int l2), (3, .ref 128)]) (i := 5) (i2 := 11) (b := 0) okL_fault pn_L rfl rfl (Nat.le_of_ble_eq_true rfl) rfl rfl co_L_15 rfl rfl rfl rfl rfl ⟨⟨Nat.le_of_ble_eq_true rfl, Nat.le_of_ble_eq_true rfl⟩, ⟨Nat.le_of_ble_eq_true rfl, Nat.le_of_ble_eq_true rfl⟩, Nat.le_of_ble_eq_true rfl⟩ (by decide) (xm_X11_fault b l1 l2 I J r hr) ?_ ?_ ?_ ?_
  · refine G.sub (lv' := [(0, .ref 0), (1, .int l1), (2, .int l2), (3, .ref 128)]) [0, 1, 2, 3] rfl ?_
    refine G.aload_n 0 3 rfl rfl ?_
    refine G.iconst (0 : Int32) 1 rfl (by decide) ?_
    refine G.aload_n 2 0 rfl rfl ?_
    refine G.iload_n 3 1 rfl rfl ?_
    refine G.iload_n 4 2 rfl rfl ?_
    exact G.exit ⟨rfl, rfl, rfl, rfl, rfl⟩
  · intro v hv
    cases r with
    | none => cases hv
    | some w =>
      cases hv
      refine G.i2l 6 rfl ?_
      refine G.last 7 rfl rfl (by unfold vp_in; decide) ?_
      refine G.goto 17 8 rfl (by decide) ?_
      refine G.iconst (0 : Int32) 12 rfl (by decide) ?_
      exact G.iret 13 rfl rfl rfl (Nat.le_refl _) (Nat.le_refl _) ⟨rfl, rfl⟩
  · intro hv
    cases r with
    | none => exact ⟨rfl, rfl⟩
    | some w => cases hv
  · intro p l e s m args below meth c Q' H locs cells slots ls lv q hx hb hl k
    refine lv_astore (lv' := (4, Value.ref q) :: lv.filter (fun z => !(z.1 == 4) && !(z.1 + 1 == 4 && z.2.category == 2))) hx hb (okL_fault.at (i := 9) rfl) hl (by decide) rfl (fun ls2 hl2 => ?_)
    exact lv_iconst (v := 1) hx hb (okL_fault.at (i := 10) rfl) (by decide) (k ls2)
def hq_row (Z : List Kd) (I : HI) (J : HJ) (r : Option Int64) : Option Value → Hp → Prop := fun v g => match r with
  | some w => v = some (.int 0) ∧ g = (Z, I, uj J 128 0 w)
  | none => v = some (.int 1) ∧ g = (Z, I, J)
set_option maxRecDepth 100000 in
theorem gh_row (b : Bool) (l1 : Int32) (I : HI) (J : HJ) (r : Option Int64) (hr : F_X11_row l1 I J = some r) : GMH mL_row [(0, 8, 11, 13)] 8 1 6 [.ref 0, .int l1, .ref 128] (zs b, I, J) (hq_row (zs b) I J r) := by
  refine GMH.of (d' := 7) (av' := [.int l1]) (rs := [.int l1]) (st := [.int 0, .ref 128]) (lv := [(0, .ref 0), (1, .int l1), (2, .ref 128)]) (i := 4) (i2 := 9) (b := 0) okL_row pn_L rfl rfl (Nat.le_of_ble_eq_true rfl) rfl rfl co_L_18 rfl rfl rfl rfl rfl ⟨⟨Nat.le_of_ble_eq_true rfl, Nat.le_of_ble_eq_true rfl⟩, ⟨Nat.le_of_ble_eq_true rfl, Nat.le_of_ble_eq_true rfl⟩, Nat.le_of_ble_eq_true rfl⟩ (by decide) (xm_X11_row b l1 I J r hr) ?_ ?_ ?_ ?_
  · refine G.sub (lv' := [(0, .ref 0), (1, .int l1), (2, .ref 128)]) [0, 1, 2] rfl ?_
    refine G.aload_n 0 2 rfl rfl ?_
    refine G.iconst (0 : Int32) 1 rfl (by decide) ?_
    refine G.aload_n 2 0 rfl rfl ?_
    refine G.iload_n 3 1 rfl rfl ?_
    exact G.exit ⟨rfl, rfl, rfl, rfl, rfl⟩
  · intro v hv
    cases r with
    | none => cases hv
    | some w =>
      cases hv
      refine G.last 5 rfl rfl (by unfold vp_in; decide) ?_
      refine G.goto 14 6 rfl (by decide) ?_
      refine G.iconst (0 : Int32) 10 rfl (by decide) ?_
      exact G.iret 11 rfl rfl rfl (Nat.le_refl _) (Nat.le_refl _) ⟨rfl, rfl⟩
  · intro hv
    cases r with
    | none => exact ⟨rfl, rfl⟩
    | some w => cases hv
  · intro p l e s m args below meth c Q' H locs cells slots ls lv q hx hb hl k
    refine lv_astore_n (i := 3) (lv' := (3, Value.ref q) :: lv.filter (fun z => !(z.1 == 3) && !(z.1 + 1 == 3 && z.2.category == 2))) hx hb (okL_row.at (i := 7) rfl) rfl hl (by decide) rfl (fun ls2 hl2 => ?_)
    exact lv_iconst (v := 1) hx hb (okL_row.at (i := 8) rfl) (by decide) (k ls2)

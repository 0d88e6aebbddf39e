/-! the links of the constant pools: fields, methods, constants, by the places of their words -/
theorem mt_1 {w : Cond} (h : w ∈ tables_1_1) : w ∈ tables_1 := List.mem_append_left _ h
theorem mt_2 {w : Cond} (h : w ∈ tables_1_2) : w ∈ tables_1 := List.mem_append_right _ (List.mem_append_left _ h)
theorem mt_3 {w : Cond} (h : w ∈ tables_1_3) : w ∈ tables_1 := List.mem_append_right _ (List.mem_append_right _ (List.mem_append_left _ h))
theorem mt_4 {w : Cond} (h : w ∈ tables_1_4) : w ∈ tables_1 := List.mem_append_right _ (List.mem_append_right _ (List.mem_append_right _ (List.mem_append_left _ h)))
theorem mt_5 {w : Cond} (h : w ∈ tables_1_5) : w ∈ tables_1 := List.mem_append_right _ (List.mem_append_right _ (List.mem_append_right _ (List.mem_append_right _ (List.mem_append_left _ h))))
theorem mt_6 {w : Cond} (h : w ∈ tables_1_6) : w ∈ tables_1 := List.mem_append_right _ (List.mem_append_right _ (List.mem_append_right _ (List.mem_append_right _ (List.mem_append_right _ (List.mem_append_left _ h)))))
theorem mt_7 {w : Cond} (h : w ∈ tables_1_7) : w ∈ tables_1 := List.mem_append_right _ (List.mem_append_right _ (List.mem_append_right _ (List.mem_append_right _ (List.mem_append_right _ (List.mem_append_right _ (List.mem_append_left _ h))))))
theorem mt_8 {w : Cond} (h : w ∈ tables_1_8) : w ∈ tables_1 := List.mem_append_right _ (List.mem_append_right _ (List.mem_append_right _ (List.mem_append_right _ (List.mem_append_right _ (List.mem_append_right _ (List.mem_append_right _ (List.mem_append_left _ h)))))))
theorem mt_9 {w : Cond} (h : w ∈ tables_1_9) : w ∈ tables_1 := List.mem_append_right _ (List.mem_append_right _ (List.mem_append_right _ (List.mem_append_right _ (List.mem_append_right _ (List.mem_append_right _ (List.mem_append_right _ (List.mem_append_right _ (h))))))))
theorem mp_1 {q : MethodName × Nat} (h : q ∈ lw_privs_1) : q ∈ lw_privs := List.mem_append_left _ h
theorem mp_2 {q : MethodName × Nat} (h : q ∈ lw_privs_2) : q ∈ lw_privs := List.mem_append_right _ (List.mem_append_left _ h)
theorem mp_3 {q : MethodName × Nat} (h : q ∈ lw_privs_3) : q ∈ lw_privs := List.mem_append_right _ (List.mem_append_right _ (List.mem_append_left _ h))
theorem mp_4 {q : MethodName × Nat} (h : q ∈ lw_privs_4) : q ∈ lw_privs := List.mem_append_right _ (List.mem_append_right _ (List.mem_append_right _ (List.mem_append_left _ h)))
theorem mp_5 {q : MethodName × Nat} (h : q ∈ lw_privs_5) : q ∈ lw_privs := List.mem_append_right _ (List.mem_append_right _ (List.mem_append_right _ (List.mem_append_right _ (List.mem_append_left _ h))))
theorem mp_6 {q : MethodName × Nat} (h : q ∈ lw_privs_6) : q ∈ lw_privs := List.mem_append_right _ (List.mem_append_right _ (List.mem_append_right _ (List.mem_append_right _ (List.mem_append_right _ (List.mem_append_left _ h)))))
theorem mp_7 {q : MethodName × Nat} (h : q ∈ lw_privs_7) : q ∈ lw_privs := List.mem_append_right _ (List.mem_append_right _ (List.mem_append_right _ (List.mem_append_right _ (List.mem_append_right _ (List.mem_append_right _ (h))))))
theorem wt {w : Cond} (h : w ∈ tables_1) (hq : qw w = true) : w ∈ wl := List.mem_filter.mpr ⟨List.mem_append_right _ h, hq⟩
theorem wp {q : MethodName × Nat} (h : q ∈ lw_privs) : Cond.selects q.1.cls q.1 q.1 ∈ wl := List.mem_filter.mpr ⟨List.mem_append_left _ (List.mem_map.mpr ⟨q, h, rfl⟩), rfl⟩
theorem gi1 {a : Cond} (h : a ∈ wl) (g : goodWord a = true) : GoodIn wl [a] := fun w hw => by rw [List.mem_singleton.mp hw]; exact ⟨h, good_of_word g⟩
theorem gic {a : Cond} {ls : List Cond} (h : a ∈ wl) (g : goodWord a = true) (t : GoodIn wl ls) : GoodIn wl (a :: ls) := fun w hw => (List.mem_cons.mp hw).elim (fun e => by rw [e]; exact ⟨h, good_of_word g⟩) (t w)
theorem w_oi1 : Cond.instanceMethod objectInit ∈ wl := (wt (mt_1 (List.mem_of_getElem? (i := 30) rfl)) rfl)
theorem w_oi2 : Cond.code objectInit ⟨#[0xb1]⟩ 1 none ∈ wl := (wt (mt_1 (List.mem_of_getElem? (i := 31) rfl)) rfl)
theorem w_ac1 : Cond.native arraycopyName ∈ wl := (wt (mt_3 (List.mem_of_getElem? (i := 223) rfl)) rfl)
theorem w_ac2 : Cond.static arraycopyName ∈ wl := (wt (mt_3 (List.mem_of_getElem? (i := 222) rfl)) rfl)
theorem w_ac3 : Cond.initialized "java/lang/System" ∈ wl := (wt (mt_1 (List.mem_of_getElem? (i := 20) rfl)) rfl)
theorem w_arr_int : Cond.arrayClass .int ∈ wl := (wt (mt_1 (List.mem_of_getElem? (i := 99) rfl)) rfl)
theorem w_arr_long : Cond.arrayClass .long ∈ wl := (wt (mt_1 (List.mem_of_getElem? (i := 100) rfl)) rfl)
theorem w_arr_char : Cond.arrayClass .char ∈ wl := (wt (mt_1 (List.mem_of_getElem? (i := 117) rfl)) rfl)
theorem w_arr_boolean : Cond.arrayClass .boolean ∈ wl := (wt (mt_2 (List.mem_of_getElem? (i := 98) rfl)) rfl)
theorem w_arr_byte : Cond.arrayClass .byte ∈ wl := (wt (mt_7 (List.mem_of_getElem? (i := 115) rfl)) rfl)
theorem wn_X0 : Cond.initialized RX0 ∈ wl := (wt (mt_1 (List.mem_of_getElem? (i := 2) rfl)) rfl)
theorem wn_X1 : Cond.initialized RX1 ∈ wl := (wt (mt_1 (List.mem_of_getElem? (i := 6) rfl)) rfl)
theorem wn_X2 : Cond.initialized RX2 ∈ wl := (wt (mt_1 (List.mem_of_getElem? (i := 12) rfl)) rfl)
theorem wn_X3 : Cond.initialized RX3 ∈ wl := (wt (mt_1 (List.mem_of_getElem? (i := 7) rfl)) rfl)
theorem wn_X4 : Cond.initialized RX4 ∈ wl := (wt (mt_1 (List.mem_of_getElem? (i := 9) rfl)) rfl)
theorem wn_X5 : Cond.initialized RX5 ∈ wl := (wt (mt_1 (List.mem_of_getElem? (i := 11) rfl)) rfl)
theorem wn_X6 : Cond.initialized RX6 ∈ wl := (wt (mt_1 (List.mem_of_getElem? (i := 4) rfl)) rfl)
theorem wn_X7 : Cond.initialized RX7 ∈ wl := (wt (mt_1 (List.mem_of_getElem? (i := 10) rfl)) rfl)
theorem wn_X8 : Cond.initialized RX8 ∈ wl := (wt (mt_1 (List.mem_of_getElem? (i := 8) rfl)) rfl)
theorem wn_X9 : Cond.initialized RX9 ∈ wl := (wt (mt_1 (List.mem_of_getElem? (i := 3) rfl)) rfl)
theorem wn_X10 : Cond.initialized RX10 ∈ wl := (wt (mt_1 (List.mem_of_getElem? (i := 5) rfl)) rfl)
theorem wn_X11 : Cond.initialized RX11 ∈ wl := (wt (mt_1 (List.mem_of_getElem? (i := 1) rfl)) rfl)
theorem wn_X12 : Cond.initialized RX12 ∈ wl := (wt (mt_1 (List.mem_of_getElem? (i := 13) rfl)) rfl)
theorem wn_J6 : Cond.initialized RJ6 ∈ wl := (wt (mt_1 (List.mem_of_getElem? (i := 23) rfl)) rfl)
theorem wn_J13 : Cond.initialized RJ13 ∈ wl := (wt (mt_1 (List.mem_of_getElem? (i := 22) rfl)) rfl)
theorem wn_J9 : Cond.initialized RJ9 ∈ wl := (wt (mt_1 (List.mem_of_getElem? (i := 14) rfl)) rfl)
theorem wn_Jxd2413 : Cond.initialized RJxd2413 ∈ wl := (wt (mt_1 (List.mem_of_getElem? (i := 21) rfl)) rfl)
theorem wn_J10 : Cond.initialized RJ10 ∈ wl := (wt (mt_1 (List.mem_of_getElem? (i := 20) rfl)) rfl)
theorem wn_J7 : Cond.initialized RJ7 ∈ wl := (wt (mt_1 (List.mem_of_getElem? (i := 15) rfl)) rfl)
theorem wn_L : Cond.initialized RL ∈ wl := (wt (mt_1 (List.mem_of_getElem? (i := 0) rfl)) rfl)
theorem wi_X0 : Cond.instantiable RX0 11 ∈ wl := (wt (mt_1 (List.mem_of_getElem? (i := 33) rfl)) rfl)
theorem wi_X1 : Cond.instantiable RX1 20 ∈ wl := (wt (mt_1 (List.mem_of_getElem? (i := 179) rfl)) rfl)
theorem wi_X2 : Cond.instantiable RX2 6 ∈ wl := (wt (mt_3 (List.mem_of_getElem? (i := 5) rfl)) rfl)
theorem wi_X3 : Cond.instantiable RX3 7 ∈ wl := (wt (mt_2 (List.mem_of_getElem? (i := 13) rfl)) rfl)
theorem wi_X4 : Cond.instantiable RX4 17 ∈ wl := (wt (mt_2 (List.mem_of_getElem? (i := 100) rfl)) rfl)
theorem wi_X5 : Cond.instantiable RX5 12 ∈ wl := (wt (mt_2 (List.mem_of_getElem? (i := 199) rfl)) rfl)
theorem wi_X6 : Cond.instantiable RX6 11 ∈ wl := (wt (mt_1 (List.mem_of_getElem? (i := 119) rfl)) rfl)
theorem wi_X7 : Cond.instantiable RX7 9 ∈ wl := (wt (mt_2 (List.mem_of_getElem? (i := 161) rfl)) rfl)
theorem wi_X8 : Cond.instantiable RX8 9 ∈ wl := (wt (mt_2 (List.mem_of_getElem? (i := 49) rfl)) rfl)
theorem wi_X9 : Cond.instantiable RX9 2 ∈ wl := (wt (mt_1 (List.mem_of_getElem? (i := 102) rfl)) rfl)
theorem wi_X10 : Cond.instantiable RX10 2 ∈ wl := (wt (mt_1 (List.mem_of_getElem? (i := 164) rfl)) rfl)
theorem wi_X11 : Cond.instantiable RX11 11 ∈ wl := (wt (mt_1 (List.mem_of_getElem? (i := 25) rfl)) rfl)
theorem wi_X12 : Cond.instantiable RX12 75 ∈ wl := (wt (mt_6 (List.mem_of_getElem? (i := 123) rfl)) rfl)
theorem wc_X0_init : cdw mX0_init ∈ wl := (wt (mt_1 (List.mem_of_getElem? (i := 36) rfl)) rfl)
theorem wd_X0_init : dOk mX0_init 0 := ⟨(by decide +kernel), (by decide +kernel), (by decide +kernel)⟩
theorem wv_X0_init : Cond.instanceMethod yX0_init ∈ wl := (wt (mt_1 (List.mem_of_getElem? (i := 35) rfl)) rfl)
theorem wc_X0_hasWire : cdw mX0_hasWire ∈ wl := (wt (mt_3 (List.mem_of_getElem? (i := 164) rfl)) rfl)
theorem wd_X0_hasWire : dOk mX0_hasWire 1 := ⟨(by decide +kernel), (by decide +kernel), (by decide +kernel)⟩
theorem wv_X0_hasWire : Cond.instanceMethod yX0_hasWire ∈ wl := (wt (mt_3 (List.mem_of_getElem? (i := 162) rfl)) rfl)
theorem wz_X0_hasWire : Cond.selects RX0 yX0_hasWire yX0_hasWire ∈ wl := (wt (mt_3 (List.mem_of_getElem? (i := 163) rfl)) rfl)
theorem wc_X0_hasLamp : cdw mX0_hasLamp ∈ wl := (wt (mt_3 (List.mem_of_getElem? (i := 200) rfl)) rfl)
theorem wd_X0_hasLamp : dOk mX0_hasLamp 1 := ⟨(by decide +kernel), (by decide +kernel), (by decide +kernel)⟩
theorem wv_X0_hasLamp : Cond.instanceMethod yX0_hasLamp ∈ wl := (wt (mt_3 (List.mem_of_getElem? (i := 198) rfl)) rfl)
theorem wz_X0_hasLamp : Cond.selects RX0 yX0_hasLamp yX0_hasLamp ∈ wl := (wt (mt_3 (List.mem_of_getElem? (i := 199) rfl)) rfl)
theorem wc_X0_hasPair : cdw mX0_hasPair ∈ wl := (wt (mt_3 (List.mem_of_getElem? (i := 196) rfl)) rfl)
theorem wd_X0_hasPair : dOk mX0_hasPair 2 := ⟨(by decide +kernel), (by decide +kernel), (by decide +kernel)⟩
theorem wv_X0_hasPair : Cond.instanceMethod yX0_hasPair ∈ wl := (wt (mt_3 (List.mem_of_getElem? (i := 194) rfl)) rfl)
theorem wz_X0_hasPair : Cond.selects RX0 yX0_hasPair yX0_hasPair ∈ wl := (wt (mt_3 (List.mem_of_getElem? (i := 195) rfl)) rfl)
theorem wc_X0_hasLamps : cdw mX0_hasLamps ∈ wl := (wt (mt_4 (List.mem_of_getElem? (i := 82) rfl)) rfl)
theorem wd_X0_hasLamps : dOk mX0_hasLamps 1 := ⟨(by decide +kernel), (by decide +kernel), (by decide +kernel)⟩
theorem wv_X0_hasLamps : Cond.instanceMethod yX0_hasLamps ∈ wl := (wt (mt_4 (List.mem_of_getElem? (i := 80) rfl)) rfl)
theorem wz_X0_hasLamps : Cond.selects RX0 yX0_hasLamps yX0_hasLamps ∈ wl := (wt (mt_4 (List.mem_of_getElem? (i := 81) rfl)) rfl)
theorem wc_X0_hasSetting : cdw mX0_hasSetting ∈ wl := (wt (mt_3 (List.mem_of_getElem? (i := 212) rfl)) rfl)
theorem wd_X0_hasSetting : dOk mX0_hasSetting 2 := ⟨(by decide +kernel), (by decide +kernel), (by decide +kernel)⟩
theorem wv_X0_hasSetting : Cond.instanceMethod yX0_hasSetting ∈ wl := (wt (mt_3 (List.mem_of_getElem? (i := 210) rfl)) rfl)
theorem wz_X0_hasSetting : Cond.selects RX0 yX0_hasSetting yX0_hasSetting ∈ wl := (wt (mt_3 (List.mem_of_getElem? (i := 211) rfl)) rfl)
theorem wc_X0_startAnew : cdw mX0_startAnew ∈ wl := (wt (mt_3 (List.mem_of_getElem? (i := 144) rfl)) rfl)
theorem wd_X0_startAnew : dOk mX0_startAnew 1 := ⟨(by decide +kernel), (by decide +kernel), (by decide +kernel)⟩
theorem wv_X0_startAnew : Cond.instanceMethod yX0_startAnew ∈ wl := (wt (mt_3 (List.mem_of_getElem? (i := 142) rfl)) rfl)
theorem wz_X0_startAnew : Cond.selects RX0 yX0_startAnew yX0_startAnew ∈ wl := (wt (mt_3 (List.mem_of_getElem? (i := 143) rfl)) rfl)
theorem wc_X0_add : cdw mX0_add ∈ wl := (wt (mt_3 (List.mem_of_getElem? (i := 168) rfl)) rfl)
theorem wd_X0_add : dOk mX0_add 3 := ⟨(by decide +kernel), (by decide +kernel), (by decide +kernel)⟩
theorem wv_X0_add : Cond.instanceMethod yX0_add ∈ wl := (wt (mt_3 (List.mem_of_getElem? (i := 166) rfl)) rfl)
theorem wz_X0_add : Cond.selects RX0 yX0_add yX0_add ∈ wl := (wt (mt_3 (List.mem_of_getElem? (i := 167) rfl)) rfl)
theorem wc_X0_resist : cdw mX0_resist ∈ wl := (wt (mt_3 (List.mem_of_getElem? (i := 160) rfl)) rfl)
theorem wd_X0_resist : dOk mX0_resist 2 := ⟨(by decide +kernel), (by decide +kernel), (by decide +kernel)⟩
theorem wv_X0_resist : Cond.instanceMethod yX0_resist ∈ wl := (wt (mt_3 (List.mem_of_getElem? (i := 158) rfl)) rfl)
theorem wz_X0_resist : Cond.selects RX0 yX0_resist yX0_resist ∈ wl := (wt (mt_3 (List.mem_of_getElem? (i := 159) rfl)) rfl)
theorem wc_X0_trade : cdw mX0_trade ∈ wl := (wt (mt_3 (List.mem_of_getElem? (i := 204) rfl)) rfl)
theorem wd_X0_trade : dOk mX0_trade 2 := ⟨(by decide +kernel), (by decide +kernel), (by decide +kernel)⟩
theorem wv_X0_trade : Cond.instanceMethod yX0_trade ∈ wl := (wt (mt_3 (List.mem_of_getElem? (i := 202) rfl)) rfl)
theorem wz_X0_trade : Cond.selects RX0 yX0_trade yX0_trade ∈ wl := (wt (mt_3 (List.mem_of_getElem? (i := 203) rfl)) rfl)
theorem wc_X0_rewire : cdw mX0_rewire ∈ wl := (wt (mt_3 (List.mem_of_getElem? (i := 148) rfl)) rfl)
theorem wd_X0_rewire : dOk mX0_rewire 0 := ⟨(by decide +kernel), (by decide +kernel), (by decide +kernel)⟩
theorem wv_X0_rewire : Cond.instanceMethod yX0_rewire ∈ wl := (wt (mt_3 (List.mem_of_getElem? (i := 146) rfl)) rfl)
theorem wz_X0_rewire : Cond.selects RX0 yX0_rewire yX0_rewire ∈ wl := (wt (mt_3 (List.mem_of_getElem? (i := 147) rfl)) rfl)
theorem wc_X0_asked : cdw mX0_asked ∈ wl := (wt (mt_4 (List.mem_of_getElem? (i := 42) rfl)) rfl)
theorem wd_X0_asked : dOk mX0_asked 2 := ⟨(by decide +kernel), (by decide +kernel), (by decide +kernel)⟩
theorem wv_X0_asked : Cond.instanceMethod yX0_asked ∈ wl := (wt (mt_4 (List.mem_of_getElem? (i := 40) rfl)) rfl)
theorem wz_X0_asked : Cond.selects RX0 yX0_asked yX0_asked ∈ wl := (wt (mt_4 (List.mem_of_getElem? (i := 41) rfl)) rfl)
theorem wc_X1_init : cdw mX1_init ∈ wl := (wt (mt_1 (List.mem_of_getElem? (i := 182) rfl)) rfl)
theorem wd_X1_init : dOk mX1_init 1 := ⟨(by decide +kernel), (by decide +kernel), (by decide +kernel)⟩
theorem wv_X1_init : Cond.instanceMethod yX1_init ∈ wl := (wt (mt_1 (List.mem_of_getElem? (i := 181) rfl)) rfl)
theorem wc_X1_glowing : cdw mX1_glowing ∈ wl := (wt (mt_3 (List.mem_of_getElem? (i := 216) rfl)) rfl)
theorem wd_X1_glowing : dOk mX1_glowing 2 := ⟨(by decide +kernel), (by decide +kernel), (by decide +kernel)⟩
theorem wv_X1_glowing : Cond.instanceMethod yX1_glowing ∈ wl := (wt (mt_3 (List.mem_of_getElem? (i := 214) rfl)) rfl)
theorem wz_X1_glowing : Cond.selects RX1 yX1_glowing yX1_glowing ∈ wl := (wt (mt_3 (List.mem_of_getElem? (i := 215) rfl)) rfl)
theorem wc_X1_watch : cdw mX1_watch ∈ wl := (wt (mt_4 (List.mem_of_getElem? (i := 52) rfl)) rfl)
theorem wd_X1_watch : dOk mX1_watch 3 := ⟨(by decide +kernel), (by decide +kernel), (by decide +kernel)⟩
theorem wv_X1_watch : Cond.instanceMethod yX1_watch ∈ wl := (wt (mt_4 (List.mem_of_getElem? (i := 50) rfl)) rfl)
theorem wz_X1_watch : Cond.selects RX1 yX1_watch yX1_watch ∈ wl := (wt (mt_4 (List.mem_of_getElem? (i := 51) rfl)) rfl)
theorem wc_X1_lay : cdw mX1_lay ∈ wl := (wt (mt_3 (List.mem_of_getElem? (i := 220) rfl)) rfl)
theorem wd_X1_lay : dOk mX1_lay 2 := ⟨(by decide +kernel), (by decide +kernel), (by decide +kernel)⟩
theorem wv_X1_lay : Cond.instanceMethod yX1_lay ∈ wl := (wt (mt_3 (List.mem_of_getElem? (i := 218) rfl)) rfl)
theorem wz_X1_lay : Cond.selects RX1 yX1_lay yX1_lay ∈ wl := (wt (mt_3 (List.mem_of_getElem? (i := 219) rfl)) rfl)
theorem wc_X1_cut : cdw mX1_cut ∈ wl := (wt (mt_5 (List.mem_of_getElem? (i := 95) rfl)) rfl)
theorem wd_X1_cut : dOk mX1_cut 1 := ⟨(by decide +kernel), (by decide +kernel), (by decide +kernel)⟩
theorem wv_X1_cut : Cond.instanceMethod yX1_cut ∈ wl := (wt (mt_5 (List.mem_of_getElem? (i := 93) rfl)) rfl)
theorem wz_X1_cut : Cond.selects RX1 yX1_cut yX1_cut ∈ wl := (wt (mt_5 (List.mem_of_getElem? (i := 94) rfl)) rfl)
theorem wc_X1_join : cdw mX1_join ∈ wl := (wt (mt_5 (List.mem_of_getElem? (i := 103) rfl)) rfl)
theorem wd_X1_join : dOk mX1_join 2 := ⟨(by decide +kernel), (by decide +kernel), (by decide +kernel)⟩
theorem wv_X1_join : Cond.instanceMethod yX1_join ∈ wl := (wt (mt_5 (List.mem_of_getElem? (i := 101) rfl)) rfl)
theorem wz_X1_join : Cond.selects RX1 yX1_join yX1_join ∈ wl := (wt (mt_5 (List.mem_of_getElem? (i := 102) rfl)) rfl)
theorem wc_X1_turn : cdw mX1_turn ∈ wl := (wt (mt_5 (List.mem_of_getElem? (i := 108) rfl)) rfl)
theorem wd_X1_turn : dOk mX1_turn 1 := ⟨(by decide +kernel), (by decide +kernel), (by decide +kernel)⟩
theorem wv_X1_turn : Cond.instanceMethod yX1_turn ∈ wl := (wt (mt_5 (List.mem_of_getElem? (i := 106) rfl)) rfl)
theorem wz_X1_turn : Cond.selects RX1 yX1_turn yX1_turn ∈ wl := (wt (mt_5 (List.mem_of_getElem? (i := 107) rfl)) rfl)
theorem wc_X1_run : cdw mX1_run ∈ wl := (wt (mt_3 (List.mem_of_getElem? (i := 227) rfl)) rfl)
theorem wd_X1_run : dOk mX1_run 0 := ⟨(by decide +kernel), (by decide +kernel), (by decide +kernel)⟩
theorem wv_X1_run : Cond.instanceMethod yX1_run ∈ wl := (wt (mt_3 (List.mem_of_getElem? (i := 225) rfl)) rfl)
theorem wz_X1_run : Cond.selects RX1 yX1_run yX1_run ∈ wl := (wt (mt_3 (List.mem_of_getElem? (i := 226) rfl)) rfl)
theorem wc_X1_putOut : cdw mX1_putOut ∈ wl := (wt (mt_3 (List.mem_of_getElem? (i := 231) rfl)) rfl)
theorem wd_X1_putOut : dOk mX1_putOut 0 := ⟨(by decide +kernel), (by decide +kernel), (by decide +kernel)⟩
theorem wv_X1_putOut : Cond.instanceMethod yX1_putOut ∈ wl := (wt (mt_3 (List.mem_of_getElem? (i := 230) rfl)) rfl)
theorem wz_X1_putOut : Cond.selects RX1 yX1_putOut yX1_putOut ∈ wl := wp (mp_1 (List.mem_of_getElem? (i := 13) rfl))
theorem wc_X1_follow : cdw mX1_follow ∈ wl := (wt (mt_4 (List.mem_of_getElem? (i := 9) rfl)) rfl)
theorem wd_X1_follow : dOk mX1_follow 4 := ⟨(by decide +kernel), (by decide +kernel), (by decide +kernel)⟩
theorem wv_X1_follow : Cond.instanceMethod yX1_follow ∈ wl := (wt (mt_4 (List.mem_of_getElem? (i := 8) rfl)) rfl)
theorem wz_X1_follow : Cond.selects RX1 yX1_follow yX1_follow ∈ wl := wp (mp_1 (List.mem_of_getElem? (i := 14) rfl))
theorem wc_X1_goalOf : cdw mX1_goalOf ∈ wl := (wt (mt_4 (List.mem_of_getElem? (i := 13) rfl)) rfl)
theorem wd_X1_goalOf : dOk mX1_goalOf 1 := ⟨(by decide +kernel), (by decide +kernel), (by decide +kernel)⟩
theorem wv_X1_goalOf : Cond.instanceMethod yX1_goalOf ∈ wl := (wt (mt_4 (List.mem_of_getElem? (i := 12) rfl)) rfl)
theorem wz_X1_goalOf : Cond.selects RX1 yX1_goalOf yX1_goalOf ∈ wl := wp (mp_1 (List.mem_of_getElem? (i := 15) rfl))
theorem wc_X1_carry : cdw mX1_carry ∈ wl := (wt (mt_4 (List.mem_of_getElem? (i := 17) rfl)) rfl)
theorem wd_X1_carry : dOk mX1_carry 4 := ⟨(by decide +kernel), (by decide +kernel), (by decide +kernel)⟩
theorem wv_X1_carry : Cond.instanceMethod yX1_carry ∈ wl := (wt (mt_4 (List.mem_of_getElem? (i := 16) rfl)) rfl)
theorem wz_X1_carry : Cond.selects RX1 yX1_carry yX1_carry ∈ wl := wp (mp_2 (List.mem_of_getElem? (i := 0) rfl))
theorem wc_X1_noteWay : cdw mX1_noteWay ∈ wl := (wt (mt_4 (List.mem_of_getElem? (i := 23) rfl)) rfl)
theorem wd_X1_noteWay : dOk mX1_noteWay 2 := ⟨(by decide +kernel), (by decide +kernel), (by decide +kernel)⟩
theorem wv_X1_noteWay : Cond.instanceMethod yX1_noteWay ∈ wl := (wt (mt_4 (List.mem_of_getElem? (i := 22) rfl)) rfl)
theorem wz_X1_noteWay : Cond.selects RX1 yX1_noteWay yX1_noteWay ∈ wl := wp (mp_2 (List.mem_of_getElem? (i := 1) rfl))
theorem wc_X1_bright : cdw mX1_bright ∈ wl := (wt (mt_4 (List.mem_of_getElem? (i := 27) rfl)) rfl)
theorem wd_X1_bright : dOk mX1_bright 0 := ⟨(by decide +kernel), (by decide +kernel), (by decide +kernel)⟩
theorem wv_X1_bright : Cond.instanceMethod yX1_bright ∈ wl := (wt (mt_4 (List.mem_of_getElem? (i := 26) rfl)) rfl)
theorem wz_X1_bright : Cond.selects RX1 yX1_bright yX1_bright ∈ wl := wp (mp_2 (List.mem_of_getElem? (i := 2) rfl))
theorem wc_X2_init : cdw mX2_init ∈ wl := (wt (mt_3 (List.mem_of_getElem? (i := 8) rfl)) rfl)
theorem wd_X2_init : dOk mX2_init 0 := ⟨(by decide +kernel), (by decide +kernel), (by decide +kernel)⟩
theorem wv_X2_init : Cond.instanceMethod yX2_init ∈ wl := (wt (mt_3 (List.mem_of_getElem? (i := 7) rfl)) rfl)
theorem wc_X2_take : cdw mX2_take ∈ wl := (wt (mt_6 (List.mem_of_getElem? (i := 13) rfl)) rfl)
theorem wd_X2_take : dOk mX2_take 2 := ⟨(by decide +kernel), (by decide +kernel), (by decide +kernel)⟩
theorem wv_X2_take : Cond.instanceMethod yX2_take ∈ wl := (wt (mt_6 (List.mem_of_getElem? (i := 11) rfl)) rfl)
theorem wz_X2_take : Cond.selects RX2 yX2_take yX2_take ∈ wl := (wt (mt_6 (List.mem_of_getElem? (i := 12) rfl)) rfl)
theorem wc_X2_give : cdw mX2_give ∈ wl := (wt (mt_6 (List.mem_of_getElem? (i := 27) rfl)) rfl)
theorem wd_X2_give : dOk mX2_give 2 := ⟨(by decide +kernel), (by decide +kernel), (by decide +kernel)⟩
theorem wv_X2_give : Cond.instanceMethod yX2_give ∈ wl := (wt (mt_6 (List.mem_of_getElem? (i := 25) rfl)) rfl)
theorem wz_X2_give : Cond.selects RX2 yX2_give yX2_give ∈ wl := (wt (mt_6 (List.mem_of_getElem? (i := 26) rfl)) rfl)
theorem wc_X3_init : cdw mX3_init ∈ wl := (wt (mt_2 (List.mem_of_getElem? (i := 16) rfl)) rfl)
theorem wd_X3_init : dOk mX3_init 0 := ⟨(by decide +kernel), (by decide +kernel), (by decide +kernel)⟩
theorem wv_X3_init : Cond.instanceMethod yX3_init ∈ wl := (wt (mt_2 (List.mem_of_getElem? (i := 15) rfl)) rfl)
theorem wc_X3_clear : cdw mX3_clear ∈ wl := (wt (mt_3 (List.mem_of_getElem? (i := 155) rfl)) rfl)
theorem wd_X3_clear : dOk mX3_clear 0 := ⟨(by decide +kernel), (by decide +kernel), (by decide +kernel)⟩
theorem wv_X3_clear : Cond.instanceMethod yX3_clear ∈ wl := (wt (mt_3 (List.mem_of_getElem? (i := 153) rfl)) rfl)
theorem wz_X3_clear : Cond.selects RX3 yX3_clear yX3_clear ∈ wl := (wt (mt_3 (List.mem_of_getElem? (i := 154) rfl)) rfl)
theorem wc_X3_addSeen : cdw mX3_addSeen ∈ wl := (wt (mt_5 (List.mem_of_getElem? (i := 138) rfl)) rfl)
theorem wd_X3_addSeen : dOk mX3_addSeen 3 := ⟨(by decide +kernel), (by decide +kernel), (by decide +kernel)⟩
theorem wv_X3_addSeen : Cond.instanceMethod yX3_addSeen ∈ wl := (wt (mt_5 (List.mem_of_getElem? (i := 136) rfl)) rfl)
theorem wz_X3_addSeen : Cond.selects RX3 yX3_addSeen yX3_addSeen ∈ wl := (wt (mt_5 (List.mem_of_getElem? (i := 137) rfl)) rfl)
theorem wc_X3_copyFrom : cdw mX3_copyFrom ∈ wl := (wt (mt_6 (List.mem_of_getElem? (i := 18) rfl)) rfl)
theorem wd_X3_copyFrom : dOk mX3_copyFrom 1 := ⟨(by decide +kernel), (by decide +kernel), (by decide +kernel)⟩
theorem wv_X3_copyFrom : Cond.instanceMethod yX3_copyFrom ∈ wl := (wt (mt_6 (List.mem_of_getElem? (i := 16) rfl)) rfl)
theorem wz_X3_copyFrom : Cond.selects RX3 yX3_copyFrom yX3_copyFrom ∈ wl := (wt (mt_6 (List.mem_of_getElem? (i := 17) rfl)) rfl)
theorem wc_X4_init : cdw mX4_init ∈ wl := (wt (mt_2 (List.mem_of_getElem? (i := 103) rfl)) rfl)
theorem wd_X4_init : dOk mX4_init 2 := ⟨(by decide +kernel), (by decide +kernel), (by decide +kernel)⟩
theorem wv_X4_init : Cond.instanceMethod yX4_init ∈ wl := (wt (mt_2 (List.mem_of_getElem? (i := 102) rfl)) rfl)
theorem wc_X4_open : cdw mX4_open ∈ wl := (wt (mt_4 (List.mem_of_getElem? (i := 173) rfl)) rfl)
theorem wd_X4_open : dOk mX4_open 1 := ⟨(by decide +kernel), (by decide +kernel), (by decide +kernel)⟩
theorem wv_X4_open : Cond.instanceMethod yX4_open ∈ wl := (wt (mt_4 (List.mem_of_getElem? (i := 171) rfl)) rfl)
theorem wz_X4_open : Cond.selects RX4 yX4_open yX4_open ∈ wl := (wt (mt_4 (List.mem_of_getElem? (i := 172) rfl)) rfl)
theorem wc_X4_numbered : cdw mX4_numbered ∈ wl := (wt (mt_4 (List.mem_of_getElem? (i := 181) rfl)) rfl)
theorem wd_X4_numbered : dOk mX4_numbered 1 := ⟨(by decide +kernel), (by decide +kernel), (by decide +kernel)⟩
theorem wv_X4_numbered : Cond.instanceMethod yX4_numbered ∈ wl := (wt (mt_4 (List.mem_of_getElem? (i := 180) rfl)) rfl)
theorem wz_X4_numbered : Cond.selects RX4 yX4_numbered yX4_numbered ∈ wl := wp (mp_2 (List.mem_of_getElem? (i := 8) rfl))
theorem wc_X4_part : cdw mX4_part ∈ wl := (wt (mt_4 (List.mem_of_getElem? (i := 185) rfl)) rfl)
theorem wd_X4_part : dOk mX4_part 0 := ⟨(by decide +kernel), (by decide +kernel), (by decide +kernel)⟩
theorem wv_X4_part : Cond.instanceMethod yX4_part ∈ wl := (wt (mt_4 (List.mem_of_getElem? (i := 183) rfl)) rfl)
theorem wz_X4_part : Cond.selects RX4 yX4_part yX4_part ∈ wl := (wt (mt_4 (List.mem_of_getElem? (i := 184) rfl)) rfl)
theorem wc_X4_findWidest : cdw mX4_findWidest ∈ wl := (wt (mt_4 (List.mem_of_getElem? (i := 189) rfl)) rfl)
theorem wd_X4_findWidest : dOk mX4_findWidest 0 := ⟨(by decide +kernel), (by decide +kernel), (by decide +kernel)⟩
theorem wv_X4_findWidest : Cond.instanceMethod yX4_findWidest ∈ wl := (wt (mt_4 (List.mem_of_getElem? (i := 188) rfl)) rfl)
theorem wz_X4_findWidest : Cond.selects RX4 yX4_findWidest yX4_findWidest ∈ wl := wp (mp_2 (List.mem_of_getElem? (i := 9) rfl))
theorem wc_X4_addWidest : cdw mX4_addWidest ∈ wl := (wt (mt_4 (List.mem_of_getElem? (i := 193) rfl)) rfl)
theorem wd_X4_addWidest : dOk mX4_addWidest 1 := ⟨(by decide +kernel), (by decide +kernel), (by decide +kernel)⟩
theorem wv_X4_addWidest : Cond.instanceMethod yX4_addWidest ∈ wl := (wt (mt_4 (List.mem_of_getElem? (i := 192) rfl)) rfl)
theorem wz_X4_addWidest : Cond.selects RX4 yX4_addWidest yX4_addWidest ∈ wl := wp (mp_2 (List.mem_of_getElem? (i := 10) rfl))
theorem wc_X4_fewestFor : cdw mX4_fewestFor ∈ wl := (wt (mt_4 (List.mem_of_getElem? (i := 203) rfl)) rfl)
theorem wd_X4_fewestFor : dOk mX4_fewestFor 2 := ⟨(by decide +kernel), (by decide +kernel), (by decide +kernel)⟩
theorem wv_X4_fewestFor : Cond.instanceMethod yX4_fewestFor ∈ wl := (wt (mt_4 (List.mem_of_getElem? (i := 202) rfl)) rfl)
theorem wz_X4_fewestFor : Cond.selects RX4 yX4_fewestFor yX4_fewestFor ∈ wl := wp (mp_2 (List.mem_of_getElem? (i := 11) rfl))
theorem wc_X4_choose : cdw mX4_choose ∈ wl := (wt (mt_4 (List.mem_of_getElem? (i := 208) rfl)) rfl)
theorem wd_X4_choose : dOk mX4_choose 1 := ⟨(by decide +kernel), (by decide +kernel), (by decide +kernel)⟩
theorem wv_X4_choose : Cond.instanceMethod yX4_choose ∈ wl := (wt (mt_4 (List.mem_of_getElem? (i := 207) rfl)) rfl)
theorem wz_X4_choose : Cond.selects RX4 yX4_choose yX4_choose ∈ wl := wp (mp_2 (List.mem_of_getElem? (i := 12) rfl))
theorem wc_X4_mostApart : cdw mX4_mostApart ∈ wl := (wt (mt_4 (List.mem_of_getElem? (i := 220) rfl)) rfl)
theorem wd_X4_mostApart : dOk mX4_mostApart 0 := ⟨(by decide +kernel), (by decide +kernel), (by decide +kernel)⟩
theorem wv_X4_mostApart : Cond.instanceMethod yX4_mostApart ∈ wl := (wt (mt_4 (List.mem_of_getElem? (i := 218) rfl)) rfl)
theorem wz_X4_mostApart : Cond.selects RX4 yX4_mostApart yX4_mostApart ∈ wl := (wt (mt_4 (List.mem_of_getElem? (i := 219) rfl)) rfl)
theorem wc_X4_findNear : cdw mX4_findNear ∈ wl := (wt (mt_4 (List.mem_of_getElem? (i := 224) rfl)) rfl)
theorem wd_X4_findNear : dOk mX4_findNear 0 := ⟨(by decide +kernel), (by decide +kernel), (by decide +kernel)⟩
theorem wv_X4_findNear : Cond.instanceMethod yX4_findNear ∈ wl := (wt (mt_4 (List.mem_of_getElem? (i := 223) rfl)) rfl)
theorem wz_X4_findNear : Cond.selects RX4 yX4_findNear yX4_findNear ∈ wl := wp (mp_2 (List.mem_of_getElem? (i := 14) rfl))
theorem wc_X4_isApart : cdw mX4_isApart ∈ wl := (wt (mt_4 (List.mem_of_getElem? (i := 235) rfl)) rfl)
theorem wd_X4_isApart : dOk mX4_isApart 1 := ⟨(by decide +kernel), (by decide +kernel), (by decide +kernel)⟩
theorem wv_X4_isApart : Cond.instanceMethod yX4_isApart ∈ wl := (wt (mt_4 (List.mem_of_getElem? (i := 234) rfl)) rfl)
theorem wz_X4_isApart : Cond.selects RX4 yX4_isApart yX4_isApart ∈ wl := wp (mp_2 (List.mem_of_getElem? (i := 15) rfl))
theorem wc_X4_putInOrder : cdw mX4_putInOrder ∈ wl := (wt (mt_5 (List.mem_of_getElem? (i := 8) rfl)) rfl)
theorem wd_X4_putInOrder : dOk mX4_putInOrder 0 := ⟨(by decide +kernel), (by decide +kernel), (by decide +kernel)⟩
theorem wv_X4_putInOrder : Cond.instanceMethod yX4_putInOrder ∈ wl := (wt (mt_5 (List.mem_of_getElem? (i := 6) rfl)) rfl)
theorem wz_X4_putInOrder : Cond.selects RX4 yX4_putInOrder yX4_putInOrder ∈ wl := (wt (mt_5 (List.mem_of_getElem? (i := 7) rfl)) rfl)
theorem wc_X4_tryOrder : cdw mX4_tryOrder ∈ wl := (wt (mt_5 (List.mem_of_getElem? (i := 12) rfl)) rfl)
theorem wd_X4_tryOrder : dOk mX4_tryOrder 4 := ⟨(by decide +kernel), (by decide +kernel), (by decide +kernel)⟩
theorem wv_X4_tryOrder : Cond.instanceMethod yX4_tryOrder ∈ wl := (wt (mt_5 (List.mem_of_getElem? (i := 11) rfl)) rfl)
theorem wz_X4_tryOrder : Cond.selects RX4 yX4_tryOrder yX4_tryOrder ∈ wl := wp (mp_3 (List.mem_of_getElem? (i := 0) rfl))
theorem wc_X4_differing : cdw mX4_differing ∈ wl := (wt (mt_5 (List.mem_of_getElem? (i := 17) rfl)) rfl)
theorem wd_X4_differing : dOk mX4_differing 2 := ⟨(by decide +kernel), (by decide +kernel), (by decide +kernel)⟩
theorem wv_X4_differing : Cond.instanceMethod yX4_differing ∈ wl := (wt (mt_5 (List.mem_of_getElem? (i := 16) rfl)) rfl)
theorem wz_X4_differing : Cond.selects RX4 yX4_differing yX4_differing ∈ wl := wp (mp_3 (List.mem_of_getElem? (i := 1) rfl))
theorem wc_X4_giveSlots : cdw mX4_giveSlots ∈ wl := (wt (mt_5 (List.mem_of_getElem? (i := 25) rfl)) rfl)
theorem wd_X4_giveSlots : dOk mX4_giveSlots 1 := ⟨(by decide +kernel), (by decide +kernel), (by decide +kernel)⟩
theorem wv_X4_giveSlots : Cond.instanceMethod yX4_giveSlots ∈ wl := (wt (mt_5 (List.mem_of_getElem? (i := 23) rfl)) rfl)
theorem wz_X4_giveSlots : Cond.selects RX4 yX4_giveSlots yX4_giveSlots ∈ wl := (wt (mt_5 (List.mem_of_getElem? (i := 24) rfl)) rfl)
theorem wc_X4_takeLights : cdw mX4_takeLights ∈ wl := (wt (mt_5 (List.mem_of_getElem? (i := 30) rfl)) rfl)
theorem wd_X4_takeLights : dOk mX4_takeLights 0 := ⟨(by decide +kernel), (by decide +kernel), (by decide +kernel)⟩
theorem wv_X4_takeLights : Cond.instanceMethod yX4_takeLights ∈ wl := (wt (mt_5 (List.mem_of_getElem? (i := 29) rfl)) rfl)
theorem wz_X4_takeLights : Cond.selects RX4 yX4_takeLights yX4_takeLights ∈ wl := wp (mp_3 (List.mem_of_getElem? (i := 2) rfl))
theorem wc_X4_dimmest : cdw mX4_dimmest ∈ wl := (wt (mt_5 (List.mem_of_getElem? (i := 35) rfl)) rfl)
theorem wd_X4_dimmest : dOk mX4_dimmest 0 := ⟨(by decide +kernel), (by decide +kernel), (by decide +kernel)⟩
theorem wv_X4_dimmest : Cond.instanceMethod yX4_dimmest ∈ wl := (wt (mt_5 (List.mem_of_getElem? (i := 34) rfl)) rfl)
theorem wz_X4_dimmest : Cond.selects RX4 yX4_dimmest yX4_dimmest ∈ wl := wp (mp_3 (List.mem_of_getElem? (i := 3) rfl))
theorem wc_X4_brightestTurn : cdw mX4_brightestTurn ∈ wl := (wt (mt_5 (List.mem_of_getElem? (i := 39) rfl)) rfl)
theorem wd_X4_brightestTurn : dOk mX4_brightestTurn 1 := ⟨(by decide +kernel), (by decide +kernel), (by decide +kernel)⟩
theorem wv_X4_brightestTurn : Cond.instanceMethod yX4_brightestTurn ∈ wl := (wt (mt_5 (List.mem_of_getElem? (i := 38) rfl)) rfl)
theorem wz_X4_brightestTurn : Cond.selects RX4 yX4_brightestTurn yX4_brightestTurn ∈ wl := wp (mp_3 (List.mem_of_getElem? (i := 4) rfl))
theorem wc_X5_init : cdw mX5_init ∈ wl := (wt (mt_2 (List.mem_of_getElem? (i := 202) rfl)) rfl)
theorem wd_X5_init : dOk mX5_init 1 := ⟨(by decide +kernel), (by decide +kernel), (by decide +kernel)⟩
theorem wv_X5_init : Cond.instanceMethod yX5_init ∈ wl := (wt (mt_2 (List.mem_of_getElem? (i := 201) rfl)) rfl)
theorem wc_X5_addTest : cdw mX5_addTest ∈ wl := (wt (mt_5 (List.mem_of_getElem? (i := 180) rfl)) rfl)
theorem wd_X5_addTest : dOk mX5_addTest 2 := ⟨(by decide +kernel), (by decide +kernel), (by decide +kernel)⟩
theorem wv_X5_addTest : Cond.instanceMethod yX5_addTest ∈ wl := (wt (mt_5 (List.mem_of_getElem? (i := 178) rfl)) rfl)
theorem wz_X5_addTest : Cond.selects RX5 yX5_addTest yX5_addTest ∈ wl := (wt (mt_5 (List.mem_of_getElem? (i := 179) rfl)) rfl)
theorem wc_X5_grow : cdw mX5_grow ∈ wl := (wt (mt_5 (List.mem_of_getElem? (i := 188) rfl)) rfl)
theorem wd_X5_grow : dOk mX5_grow 0 := ⟨(by decide +kernel), (by decide +kernel), (by decide +kernel)⟩
theorem wv_X5_grow : Cond.instanceMethod yX5_grow ∈ wl := (wt (mt_5 (List.mem_of_getElem? (i := 186) rfl)) rfl)
theorem wz_X5_grow : Cond.selects RX5 yX5_grow yX5_grow ∈ wl := (wt (mt_5 (List.mem_of_getElem? (i := 187) rfl)) rfl)
theorem wc_X5_findGroup : cdw mX5_findGroup ∈ wl := (wt (mt_5 (List.mem_of_getElem? (i := 192) rfl)) rfl)
theorem wd_X5_findGroup : dOk mX5_findGroup 1 := ⟨(by decide +kernel), (by decide +kernel), (by decide +kernel)⟩
theorem wv_X5_findGroup : Cond.instanceMethod yX5_findGroup ∈ wl := (wt (mt_5 (List.mem_of_getElem? (i := 191) rfl)) rfl)
theorem wz_X5_findGroup : Cond.selects RX5 yX5_findGroup yX5_findGroup ∈ wl := wp (mp_3 (List.mem_of_getElem? (i := 10) rfl))
theorem wc_X5_isSameRow : cdw mX5_isSameRow ∈ wl := (wt (mt_5 (List.mem_of_getElem? (i := 197) rfl)) rfl)
theorem wd_X5_isSameRow : dOk mX5_isSameRow 2 := ⟨(by decide +kernel), (by decide +kernel), (by decide +kernel)⟩
theorem wv_X5_isSameRow : Cond.instanceMethod yX5_isSameRow ∈ wl := (wt (mt_5 (List.mem_of_getElem? (i := 196) rfl)) rfl)
theorem wz_X5_isSameRow : Cond.selects RX5 yX5_isSameRow yX5_isSameRow ∈ wl := wp (mp_3 (List.mem_of_getElem? (i := 11) rfl))
theorem wc_X5_place : cdw mX5_place ∈ wl := (wt (mt_5 (List.mem_of_getElem? (i := 200) rfl)) rfl)
theorem wd_X5_place : dOk mX5_place 2 := ⟨(by decide +kernel), (by decide +kernel), (by decide +kernel)⟩
theorem ws_X5_place : Cond.static yX5_place ∈ wl := (wt (mt_5 (List.mem_of_getElem? (i := 199) rfl)) rfl)
theorem wc_X5_partCells : cdw mX5_partCells ∈ wl := (wt (mt_5 (List.mem_of_getElem? (i := 204) rfl)) rfl)
theorem wd_X5_partCells : dOk mX5_partCells 1 := ⟨(by decide +kernel), (by decide +kernel), (by decide +kernel)⟩
theorem wv_X5_partCells : Cond.instanceMethod yX5_partCells ∈ wl := (wt (mt_5 (List.mem_of_getElem? (i := 203) rfl)) rfl)
theorem wz_X5_partCells : Cond.selects RX5 yX5_partCells yX5_partCells ∈ wl := wp (mp_3 (List.mem_of_getElem? (i := 12) rfl))
theorem wc_X5_isOneCell : cdw mX5_isOneCell ∈ wl := (wt (mt_5 (List.mem_of_getElem? (i := 209) rfl)) rfl)
theorem wd_X5_isOneCell : dOk mX5_isOneCell 4 := ⟨(by decide +kernel), (by decide +kernel), (by decide +kernel)⟩
theorem wv_X5_isOneCell : Cond.instanceMethod yX5_isOneCell ∈ wl := (wt (mt_5 (List.mem_of_getElem? (i := 208) rfl)) rfl)
theorem wz_X5_isOneCell : Cond.selects RX5 yX5_isOneCell yX5_isOneCell ∈ wl := wp (mp_3 (List.mem_of_getElem? (i := 13) rfl))
theorem wc_X5_reckonDepths : cdw mX5_reckonDepths ∈ wl := (wt (mt_5 (List.mem_of_getElem? (i := 213) rfl)) rfl)
theorem wd_X5_reckonDepths : dOk mX5_reckonDepths 1 := ⟨(by decide +kernel), (by decide +kernel), (by decide +kernel)⟩
theorem wv_X5_reckonDepths : Cond.instanceMethod yX5_reckonDepths ∈ wl := (wt (mt_5 (List.mem_of_getElem? (i := 212) rfl)) rfl)
theorem wz_X5_reckonDepths : Cond.selects RX5 yX5_reckonDepths yX5_reckonDepths ∈ wl := wp (mp_3 (List.mem_of_getElem? (i := 14) rfl))
theorem wc_X5_tryTest : cdw mX5_tryTest ∈ wl := (wt (mt_5 (List.mem_of_getElem? (i := 218) rfl)) rfl)
theorem wd_X5_tryTest : dOk mX5_tryTest 2 := ⟨(by decide +kernel), (by decide +kernel), (by decide +kernel)⟩
theorem wv_X5_tryTest : Cond.instanceMethod yX5_tryTest ∈ wl := (wt (mt_5 (List.mem_of_getElem? (i := 217) rfl)) rfl)
theorem wz_X5_tryTest : Cond.selects RX5 yX5_tryTest yX5_tryTest ∈ wl := wp (mp_3 (List.mem_of_getElem? (i := 15) rfl))
theorem wc_X5_depthAt : cdw mX5_depthAt ∈ wl := (wt (mt_5 (List.mem_of_getElem? (i := 222) rfl)) rfl)
theorem wd_X5_depthAt : dOk mX5_depthAt 2 := ⟨(by decide +kernel), (by decide +kernel), (by decide +kernel)⟩
theorem wv_X5_depthAt : Cond.instanceMethod yX5_depthAt ∈ wl := (wt (mt_5 (List.mem_of_getElem? (i := 220) rfl)) rfl)
theorem wz_X5_depthAt : Cond.selects RX5 yX5_depthAt yX5_depthAt ∈ wl := (wt (mt_5 (List.mem_of_getElem? (i := 221) rfl)) rfl)
theorem wc_X5_firstTest : cdw mX5_firstTest ∈ wl := (wt (mt_5 (List.mem_of_getElem? (i := 228) rfl)) rfl)
theorem wd_X5_firstTest : dOk mX5_firstTest 2 := ⟨(by decide +kernel), (by decide +kernel), (by decide +kernel)⟩
theorem wv_X5_firstTest : Cond.instanceMethod yX5_firstTest ∈ wl := (wt (mt_5 (List.mem_of_getElem? (i := 226) rfl)) rfl)
theorem wz_X5_firstTest : Cond.selects RX5 yX5_firstTest yX5_firstTest ∈ wl := (wt (mt_5 (List.mem_of_getElem? (i := 227) rfl)) rfl)
theorem wc_X5_worstBehind : cdw mX5_worstBehind ∈ wl := (wt (mt_5 (List.mem_of_getElem? (i := 232) rfl)) rfl)
theorem wd_X5_worstBehind : dOk mX5_worstBehind 3 := ⟨(by decide +kernel), (by decide +kernel), (by decide +kernel)⟩
theorem wv_X5_worstBehind : Cond.instanceMethod yX5_worstBehind ∈ wl := (wt (mt_5 (List.mem_of_getElem? (i := 231) rfl)) rfl)
theorem wz_X5_worstBehind : Cond.selects RX5 yX5_worstBehind yX5_worstBehind ∈ wl := wp (mp_4 (List.mem_of_getElem? (i := 0) rfl))
theorem wc_X5_groupOfFault : cdw mX5_groupOfFault ∈ wl := (wt (mt_6 (List.mem_of_getElem? (i := 1) rfl)) rfl)
theorem wd_X5_groupOfFault : dOk mX5_groupOfFault 1 := ⟨(by decide +kernel), (by decide +kernel), (by decide +kernel)⟩
theorem wv_X5_groupOfFault : Cond.instanceMethod yX5_groupOfFault ∈ wl := (wt (mt_5 (List.mem_of_getElem? (i := 239) rfl)) rfl)
theorem wz_X5_groupOfFault : Cond.selects RX5 yX5_groupOfFault yX5_groupOfFault ∈ wl := (wt (mt_6 (List.mem_of_getElem? (i := 0) rfl)) rfl)
theorem wc_X5_sizeOfGroup : cdw mX5_sizeOfGroup ∈ wl := (wt (mt_6 (List.mem_of_getElem? (i := 5) rfl)) rfl)
theorem wd_X5_sizeOfGroup : dOk mX5_sizeOfGroup 1 := ⟨(by decide +kernel), (by decide +kernel), (by decide +kernel)⟩
theorem wv_X5_sizeOfGroup : Cond.instanceMethod yX5_sizeOfGroup ∈ wl := (wt (mt_6 (List.mem_of_getElem? (i := 3) rfl)) rfl)
theorem wz_X5_sizeOfGroup : Cond.selects RX5 yX5_sizeOfGroup yX5_sizeOfGroup ∈ wl := (wt (mt_6 (List.mem_of_getElem? (i := 4) rfl)) rfl)
theorem wc_X6_init : cdw mX6_init ∈ wl := (wt (mt_1 (List.mem_of_getElem? (i := 122) rfl)) rfl)
theorem wd_X6_init : dOk mX6_init 1 := ⟨(by decide +kernel), (by decide +kernel), (by decide +kernel)⟩
theorem wv_X6_init : Cond.instanceMethod yX6_init ∈ wl := (wt (mt_1 (List.mem_of_getElem? (i := 121) rfl)) rfl)
theorem wc_X6_read : cdw mX6_read ∈ wl := (wt (mt_3 (List.mem_of_getElem? (i := 85) rfl)) rfl)
theorem wd_X6_read : dOk mX6_read 2 := ⟨(by decide +kernel), (by decide +kernel), (by decide +kernel)⟩
theorem wv_X6_read : Cond.instanceMethod yX6_read ∈ wl := (wt (mt_3 (List.mem_of_getElem? (i := 83) rfl)) rfl)
theorem wz_X6_read : Cond.selects RX6 yX6_read yX6_read ∈ wl := (wt (mt_3 (List.mem_of_getElem? (i := 84) rfl)) rfl)
theorem wc_X6_goesOn : cdw mX6_goesOn ∈ wl := (wt (mt_3 (List.mem_of_getElem? (i := 136) rfl)) rfl)
theorem wd_X6_goesOn : dOk mX6_goesOn 0 := ⟨(by decide +kernel), (by decide +kernel), (by decide +kernel)⟩
theorem wv_X6_goesOn : Cond.instanceMethod yX6_goesOn ∈ wl := (wt (mt_3 (List.mem_of_getElem? (i := 135) rfl)) rfl)
theorem wz_X6_goesOn : Cond.selects RX6 yX6_goesOn yX6_goesOn ∈ wl := wp (mp_1 (List.mem_of_getElem? (i := 11) rfl))
theorem wc_X6_readLine : cdw mX6_readLine ∈ wl := (wt (mt_3 (List.mem_of_getElem? (i := 92) rfl)) rfl)
theorem wd_X6_readLine : dOk mX6_readLine 0 := ⟨(by decide +kernel), (by decide +kernel), (by decide +kernel)⟩
theorem wv_X6_readLine : Cond.instanceMethod yX6_readLine ∈ wl := (wt (mt_3 (List.mem_of_getElem? (i := 91) rfl)) rfl)
theorem wz_X6_readLine : Cond.selects RX6 yX6_readLine yX6_readLine ∈ wl := wp (mp_1 (List.mem_of_getElem? (i := 0) rfl))
theorem wc_X6_readWidth : cdw mX6_readWidth ∈ wl := (wt (mt_3 (List.mem_of_getElem? (i := 100) rfl)) rfl)
theorem wd_X6_readWidth : dOk mX6_readWidth 0 := ⟨(by decide +kernel), (by decide +kernel), (by decide +kernel)⟩
theorem wv_X6_readWidth : Cond.instanceMethod yX6_readWidth ∈ wl := (wt (mt_3 (List.mem_of_getElem? (i := 99) rfl)) rfl)
theorem wz_X6_readWidth : Cond.selects RX6 yX6_readWidth yX6_readWidth ∈ wl := wp (mp_1 (List.mem_of_getElem? (i := 2) rfl))
theorem wc_X6_readOhms : cdw mX6_readOhms ∈ wl := (wt (mt_3 (List.mem_of_getElem? (i := 120) rfl)) rfl)
theorem wd_X6_readOhms : dOk mX6_readOhms 0 := ⟨(by decide +kernel), (by decide +kernel), (by decide +kernel)⟩
theorem wv_X6_readOhms : Cond.instanceMethod yX6_readOhms ∈ wl := (wt (mt_3 (List.mem_of_getElem? (i := 119) rfl)) rfl)
theorem wz_X6_readOhms : Cond.selects RX6 yX6_readOhms yX6_readOhms ∈ wl := wp (mp_1 (List.mem_of_getElem? (i := 7) rfl))
theorem wc_X6_readLamp : cdw mX6_readLamp ∈ wl := (wt (mt_3 (List.mem_of_getElem? (i := 132) rfl)) rfl)
theorem wd_X6_readLamp : dOk mX6_readLamp 0 := ⟨(by decide +kernel), (by decide +kernel), (by decide +kernel)⟩
theorem wv_X6_readLamp : Cond.instanceMethod yX6_readLamp ∈ wl := (wt (mt_3 (List.mem_of_getElem? (i := 131) rfl)) rfl)
theorem wz_X6_readLamp : Cond.selects RX6 yX6_readLamp yX6_readLamp ∈ wl := wp (mp_1 (List.mem_of_getElem? (i := 10) rfl))
theorem wc_X6_note : cdw mX6_note ∈ wl := (wt (mt_3 (List.mem_of_getElem? (i := 116) rfl)) rfl)
theorem wd_X6_note : dOk mX6_note 4 := ⟨(by decide +kernel), (by decide +kernel), (by decide +kernel)⟩
theorem wv_X6_note : Cond.instanceMethod yX6_note ∈ wl := (wt (mt_3 (List.mem_of_getElem? (i := 115) rfl)) rfl)
theorem wz_X6_note : Cond.selects RX6 yX6_note yX6_note ∈ wl := wp (mp_1 (List.mem_of_getElem? (i := 6) rfl))
theorem wc_X6_fail : cdw mX6_fail ∈ wl := (wt (mt_3 (List.mem_of_getElem? (i := 112) rfl)) rfl)
theorem wd_X6_fail : dOk mX6_fail 1 := ⟨(by decide +kernel), (by decide +kernel), (by decide +kernel)⟩
theorem wv_X6_fail : Cond.instanceMethod yX6_fail ∈ wl := (wt (mt_3 (List.mem_of_getElem? (i := 111) rfl)) rfl)
theorem wz_X6_fail : Cond.selects RX6 yX6_fail yX6_fail ∈ wl := wp (mp_1 (List.mem_of_getElem? (i := 5) rfl))
theorem wc_X6_isAt : cdw mX6_isAt ∈ wl := (wt (mt_3 (List.mem_of_getElem? (i := 96) rfl)) rfl)
theorem wd_X6_isAt : dOk mX6_isAt 1 := ⟨(by decide +kernel), (by decide +kernel), (by decide +kernel)⟩
theorem wv_X6_isAt : Cond.instanceMethod yX6_isAt ∈ wl := (wt (mt_3 (List.mem_of_getElem? (i := 95) rfl)) rfl)
theorem wz_X6_isAt : Cond.selects RX6 yX6_isAt yX6_isAt ∈ wl := wp (mp_1 (List.mem_of_getElem? (i := 1) rfl))
theorem wc_X6_isDigit : cdw mX6_isDigit ∈ wl := (wt (mt_3 (List.mem_of_getElem? (i := 108) rfl)) rfl)
theorem wd_X6_isDigit : dOk mX6_isDigit 0 := ⟨(by decide +kernel), (by decide +kernel), (by decide +kernel)⟩
theorem wv_X6_isDigit : Cond.instanceMethod yX6_isDigit ∈ wl := (wt (mt_3 (List.mem_of_getElem? (i := 107) rfl)) rfl)
theorem wz_X6_isDigit : Cond.selects RX6 yX6_isDigit yX6_isDigit ∈ wl := wp (mp_1 (List.mem_of_getElem? (i := 4) rfl))
theorem wc_X6_take : cdw mX6_take ∈ wl := (wt (mt_3 (List.mem_of_getElem? (i := 128) rfl)) rfl)
theorem wd_X6_take : dOk mX6_take 1 := ⟨(by decide +kernel), (by decide +kernel), (by decide +kernel)⟩
theorem wv_X6_take : Cond.instanceMethod yX6_take ∈ wl := (wt (mt_3 (List.mem_of_getElem? (i := 127) rfl)) rfl)
theorem wz_X6_take : Cond.selects RX6 yX6_take yX6_take ∈ wl := wp (mp_1 (List.mem_of_getElem? (i := 9) rfl))
theorem wc_X6_takeWire : cdw mX6_takeWire ∈ wl := (wt (mt_3 (List.mem_of_getElem? (i := 124) rfl)) rfl)
theorem wd_X6_takeWire : dOk mX6_takeWire 1 := ⟨(by decide +kernel), (by decide +kernel), (by decide +kernel)⟩
theorem wv_X6_takeWire : Cond.instanceMethod yX6_takeWire ∈ wl := (wt (mt_3 (List.mem_of_getElem? (i := 123) rfl)) rfl)
theorem wz_X6_takeWire : Cond.selects RX6 yX6_takeWire yX6_takeWire ∈ wl := wp (mp_1 (List.mem_of_getElem? (i := 8) rfl))
theorem wc_X6_takeNumber : cdw mX6_takeNumber ∈ wl := (wt (mt_3 (List.mem_of_getElem? (i := 104) rfl)) rfl)
theorem wd_X6_takeNumber : dOk mX6_takeNumber 2 := ⟨(by decide +kernel), (by decide +kernel), (by decide +kernel)⟩
theorem wv_X6_takeNumber : Cond.instanceMethod yX6_takeNumber ∈ wl := (wt (mt_3 (List.mem_of_getElem? (i := 103) rfl)) rfl)
theorem wz_X6_takeNumber : Cond.selects RX6 yX6_takeNumber yX6_takeNumber ∈ wl := wp (mp_1 (List.mem_of_getElem? (i := 3) rfl))
theorem wc_X7_init : cdw mX7_init ∈ wl := (wt (mt_2 (List.mem_of_getElem? (i := 164) rfl)) rfl)
theorem wd_X7_init : dOk mX7_init 3 := ⟨(by decide +kernel), (by decide +kernel), (by decide +kernel)⟩
theorem wv_X7_init : Cond.instanceMethod yX7_init ∈ wl := (wt (mt_2 (List.mem_of_getElem? (i := 163) rfl)) rfl)
theorem wc_X7_firstTouch : cdw mX7_firstTouch ∈ wl := (wt (mt_5 (List.mem_of_getElem? (i := 55) rfl)) rfl)
theorem wd_X7_firstTouch : dOk mX7_firstTouch 0 := ⟨(by decide +kernel), (by decide +kernel), (by decide +kernel)⟩
theorem wv_X7_firstTouch : Cond.instanceMethod yX7_firstTouch ∈ wl := (wt (mt_5 (List.mem_of_getElem? (i := 53) rfl)) rfl)
theorem wz_X7_firstTouch : Cond.selects RX7 yX7_firstTouch yX7_firstTouch ∈ wl := (wt (mt_5 (List.mem_of_getElem? (i := 54) rfl)) rfl)
theorem wc_X7_firstTurned : cdw mX7_firstTurned ∈ wl := (wt (mt_5 (List.mem_of_getElem? (i := 59) rfl)) rfl)
theorem wd_X7_firstTurned : dOk mX7_firstTurned 0 := ⟨(by decide +kernel), (by decide +kernel), (by decide +kernel)⟩
theorem wv_X7_firstTurned : Cond.instanceMethod yX7_firstTurned ∈ wl := (wt (mt_5 (List.mem_of_getElem? (i := 57) rfl)) rfl)
theorem wz_X7_firstTurned : Cond.selects RX7 yX7_firstTurned yX7_firstTurned ∈ wl := (wt (mt_5 (List.mem_of_getElem? (i := 58) rfl)) rfl)
theorem wc_X7_size : cdw mX7_size ∈ wl := (wt (mt_5 (List.mem_of_getElem? (i := 64) rfl)) rfl)
theorem wd_X7_size : dOk mX7_size 0 := ⟨(by decide +kernel), (by decide +kernel), (by decide +kernel)⟩
theorem wv_X7_size : Cond.instanceMethod yX7_size ∈ wl := (wt (mt_5 (List.mem_of_getElem? (i := 62) rfl)) rfl)
theorem wz_X7_size : Cond.selects RX7 yX7_size yX7_size ∈ wl := (wt (mt_5 (List.mem_of_getElem? (i := 63) rfl)) rfl)
theorem wc_X7_has : cdw mX7_has ∈ wl := (wt (mt_5 (List.mem_of_getElem? (i := 73) rfl)) rfl)
theorem wd_X7_has : dOk mX7_has 1 := ⟨(by decide +kernel), (by decide +kernel), (by decide +kernel)⟩
theorem wv_X7_has : Cond.instanceMethod yX7_has ∈ wl := (wt (mt_5 (List.mem_of_getElem? (i := 71) rfl)) rfl)
theorem wz_X7_has : Cond.selects RX7 yX7_has yX7_has ∈ wl := (wt (mt_5 (List.mem_of_getElem? (i := 72) rfl)) rfl)
theorem wc_X7_kindOf : cdw mX7_kindOf ∈ wl := (wt (mt_5 (List.mem_of_getElem? (i := 83) rfl)) rfl)
theorem wd_X7_kindOf : dOk mX7_kindOf 1 := ⟨(by decide +kernel), (by decide +kernel), (by decide +kernel)⟩
theorem wv_X7_kindOf : Cond.instanceMethod yX7_kindOf ∈ wl := (wt (mt_5 (List.mem_of_getElem? (i := 81) rfl)) rfl)
theorem wz_X7_kindOf : Cond.selects RX7 yX7_kindOf yX7_kindOf ∈ wl := (wt (mt_5 (List.mem_of_getElem? (i := 82) rfl)) rfl)
theorem wc_X7_firstOf : cdw mX7_firstOf ∈ wl := (wt (mt_5 (List.mem_of_getElem? (i := 87) rfl)) rfl)
theorem wd_X7_firstOf : dOk mX7_firstOf 1 := ⟨(by decide +kernel), (by decide +kernel), (by decide +kernel)⟩
theorem wv_X7_firstOf : Cond.instanceMethod yX7_firstOf ∈ wl := (wt (mt_5 (List.mem_of_getElem? (i := 85) rfl)) rfl)
theorem wz_X7_firstOf : Cond.selects RX7 yX7_firstOf yX7_firstOf ∈ wl := (wt (mt_5 (List.mem_of_getElem? (i := 86) rfl)) rfl)
theorem wc_X7_secondOf : cdw mX7_secondOf ∈ wl := (wt (mt_6 (List.mem_of_getElem? (i := 114) rfl)) rfl)
theorem wd_X7_secondOf : dOk mX7_secondOf 1 := ⟨(by decide +kernel), (by decide +kernel), (by decide +kernel)⟩
theorem wv_X7_secondOf : Cond.instanceMethod yX7_secondOf ∈ wl := (wt (mt_6 (List.mem_of_getElem? (i := 112) rfl)) rfl)
theorem wz_X7_secondOf : Cond.selects RX7 yX7_secondOf yX7_secondOf ∈ wl := (wt (mt_6 (List.mem_of_getElem? (i := 113) rfl)) rfl)
theorem wc_X7_firstOfPair : cdw mX7_firstOfPair ∈ wl := (wt (mt_5 (List.mem_of_getElem? (i := 91) rfl)) rfl)
theorem wd_X7_firstOfPair : dOk mX7_firstOfPair 1 := ⟨(by decide +kernel), (by decide +kernel), (by decide +kernel)⟩
theorem wv_X7_firstOfPair : Cond.instanceMethod yX7_firstOfPair ∈ wl := (wt (mt_5 (List.mem_of_getElem? (i := 90) rfl)) rfl)
theorem wz_X7_firstOfPair : Cond.selects RX7 yX7_firstOfPair yX7_firstOfPair ∈ wl := wp (mp_3 (List.mem_of_getElem? (i := 6) rfl))
theorem wc_X7_secondOfPair : cdw mX7_secondOfPair ∈ wl := (wt (mt_5 (List.mem_of_getElem? (i := 99) rfl)) rfl)
theorem wd_X7_secondOfPair : dOk mX7_secondOfPair 2 := ⟨(by decide +kernel), (by decide +kernel), (by decide +kernel)⟩
theorem wv_X7_secondOfPair : Cond.instanceMethod yX7_secondOfPair ∈ wl := (wt (mt_5 (List.mem_of_getElem? (i := 98) rfl)) rfl)
theorem wz_X7_secondOfPair : Cond.selects RX7 yX7_secondOfPair yX7_secondOfPair ∈ wl := wp (mp_3 (List.mem_of_getElem? (i := 7) rfl))
theorem wc_X7_glowWith : cdw mX7_glowWith ∈ wl := (wt (mt_5 (List.mem_of_getElem? (i := 78) rfl)) rfl)
theorem wd_X7_glowWith : dOk mX7_glowWith 3 := ⟨(by decide +kernel), (by decide +kernel), (by decide +kernel)⟩
theorem wv_X7_glowWith : Cond.instanceMethod yX7_glowWith ∈ wl := (wt (mt_5 (List.mem_of_getElem? (i := 76) rfl)) rfl)
theorem wz_X7_glowWith : Cond.selects RX7 yX7_glowWith yX7_glowWith ∈ wl := (wt (mt_5 (List.mem_of_getElem? (i := 77) rfl)) rfl)
theorem wc_X7_glowBy : cdw mX7_glowBy ∈ wl := (wt (mt_5 (List.mem_of_getElem? (i := 121) rfl)) rfl)
theorem wd_X7_glowBy : dOk mX7_glowBy 2 := ⟨(by decide +kernel), (by decide +kernel), (by decide +kernel)⟩
theorem wv_X7_glowBy : Cond.instanceMethod yX7_glowBy ∈ wl := (wt (mt_5 (List.mem_of_getElem? (i := 120) rfl)) rfl)
theorem wz_X7_glowBy : Cond.selects RX7 yX7_glowBy yX7_glowBy ∈ wl := wp (mp_3 (List.mem_of_getElem? (i := 8) rfl))
theorem wc_X7_firstParting : cdw mX7_firstParting ∈ wl := (wt (mt_5 (List.mem_of_getElem? (i := 117) rfl)) rfl)
theorem wd_X7_firstParting : dOk mX7_firstParting 3 := ⟨(by decide +kernel), (by decide +kernel), (by decide +kernel)⟩
theorem wv_X7_firstParting : Cond.instanceMethod yX7_firstParting ∈ wl := (wt (mt_5 (List.mem_of_getElem? (i := 115) rfl)) rfl)
theorem wz_X7_firstParting : Cond.selects RX7 yX7_firstParting yX7_firstParting ∈ wl := (wt (mt_5 (List.mem_of_getElem? (i := 116) rfl)) rfl)
theorem wc_X7_firstAgainst : cdw mX7_firstAgainst ∈ wl := (wt (mt_5 (List.mem_of_getElem? (i := 154) rfl)) rfl)
theorem wd_X7_firstAgainst : dOk mX7_firstAgainst 1 := ⟨(by decide +kernel), (by decide +kernel), (by decide +kernel)⟩
theorem wv_X7_firstAgainst : Cond.instanceMethod yX7_firstAgainst ∈ wl := (wt (mt_5 (List.mem_of_getElem? (i := 152) rfl)) rfl)
theorem wz_X7_firstAgainst : Cond.selects RX7 yX7_firstAgainst yX7_firstAgainst ∈ wl := (wt (mt_5 (List.mem_of_getElem? (i := 153) rfl)) rfl)
theorem wc_X7_gather : cdw mX7_gather ∈ wl := (wt (mt_5 (List.mem_of_getElem? (i := 150) rfl)) rfl)
theorem wd_X7_gather : dOk mX7_gather 0 := ⟨(by decide +kernel), (by decide +kernel), (by decide +kernel)⟩
theorem wv_X7_gather : Cond.instanceMethod yX7_gather ∈ wl := (wt (mt_5 (List.mem_of_getElem? (i := 148) rfl)) rfl)
theorem wz_X7_gather : Cond.selects RX7 yX7_gather yX7_gather ∈ wl := (wt (mt_5 (List.mem_of_getElem? (i := 149) rfl)) rfl)
theorem wc_X7_leftAtWorst : cdw mX7_leftAtWorst ∈ wl := (wt (mt_5 (List.mem_of_getElem? (i := 167) rfl)) rfl)
theorem wd_X7_leftAtWorst : dOk mX7_leftAtWorst 2 := ⟨(by decide +kernel), (by decide +kernel), (by decide +kernel)⟩
theorem wv_X7_leftAtWorst : Cond.instanceMethod yX7_leftAtWorst ∈ wl := (wt (mt_5 (List.mem_of_getElem? (i := 165) rfl)) rfl)
theorem wz_X7_leftAtWorst : Cond.selects RX7 yX7_leftAtWorst yX7_leftAtWorst ∈ wl := (wt (mt_5 (List.mem_of_getElem? (i := 166) rfl)) rfl)
theorem wc_X7_joinGroup : cdw mX7_joinGroup ∈ wl := (wt (mt_5 (List.mem_of_getElem? (i := 171) rfl)) rfl)
theorem wd_X7_joinGroup : dOk mX7_joinGroup 1 := ⟨(by decide +kernel), (by decide +kernel), (by decide +kernel)⟩
theorem wv_X7_joinGroup : Cond.instanceMethod yX7_joinGroup ∈ wl := (wt (mt_5 (List.mem_of_getElem? (i := 170) rfl)) rfl)
theorem wz_X7_joinGroup : Cond.selects RX7 yX7_joinGroup yX7_joinGroup ∈ wl := wp (mp_3 (List.mem_of_getElem? (i := 9) rfl))
theorem wc_X8_init : cdw mX8_init ∈ wl := (wt (mt_2 (List.mem_of_getElem? (i := 52) rfl)) rfl)
theorem wd_X8_init : dOk mX8_init 2 := ⟨(by decide +kernel), (by decide +kernel), (by decide +kernel)⟩
theorem wv_X8_init : Cond.instanceMethod yX8_init ∈ wl := (wt (mt_2 (List.mem_of_getElem? (i := 51) rfl)) rfl)
theorem wc_X8_refresh : cdw mX8_refresh ∈ wl := (wt (mt_4 (List.mem_of_getElem? (i := 94) rfl)) rfl)
theorem wd_X8_refresh : dOk mX8_refresh 0 := ⟨(by decide +kernel), (by decide +kernel), (by decide +kernel)⟩
theorem wv_X8_refresh : Cond.instanceMethod yX8_refresh ∈ wl := (wt (mt_4 (List.mem_of_getElem? (i := 92) rfl)) rfl)
theorem wz_X8_refresh : Cond.selects RX8 yX8_refresh yX8_refresh ∈ wl := (wt (mt_4 (List.mem_of_getElem? (i := 93) rfl)) rfl)
theorem wc_X8_isTurn : cdw mX8_isTurn ∈ wl := (wt (mt_4 (List.mem_of_getElem? (i := 177) rfl)) rfl)
theorem wd_X8_isTurn : dOk mX8_isTurn 2 := ⟨(by decide +kernel), (by decide +kernel), (by decide +kernel)⟩
theorem wv_X8_isTurn : Cond.instanceMethod yX8_isTurn ∈ wl := (wt (mt_4 (List.mem_of_getElem? (i := 175) rfl)) rfl)
theorem wz_X8_isTurn : Cond.selects RX8 yX8_isTurn yX8_isTurn ∈ wl := (wt (mt_4 (List.mem_of_getElem? (i := 176) rfl)) rfl)
theorem wc_X8_newSets : cdw mX8_newSets ∈ wl := (wt (mt_4 (List.mem_of_getElem? (i := 124) rfl)) rfl)
theorem wd_X8_newSets : dOk mX8_newSets 1 := ⟨(by decide +kernel), (by decide +kernel), (by decide +kernel)⟩
theorem wv_X8_newSets : Cond.instanceMethod yX8_newSets ∈ wl := (wt (mt_4 (List.mem_of_getElem? (i := 122) rfl)) rfl)
theorem wz_X8_newSets : Cond.selects RX8 yX8_newSets yX8_newSets ∈ wl := (wt (mt_4 (List.mem_of_getElem? (i := 123) rfl)) rfl)
theorem wc_X8_enter : cdw mX8_enter ∈ wl := (wt (mt_4 (List.mem_of_getElem? (i := 128) rfl)) rfl)
theorem wd_X8_enter : dOk mX8_enter 1 := ⟨(by decide +kernel), (by decide +kernel), (by decide +kernel)⟩
theorem wv_X8_enter : Cond.instanceMethod yX8_enter ∈ wl := (wt (mt_4 (List.mem_of_getElem? (i := 127) rfl)) rfl)
theorem wz_X8_enter : Cond.selects RX8 yX8_enter yX8_enter ∈ wl := wp (mp_2 (List.mem_of_getElem? (i := 5) rfl))
theorem wc_X8_likeBehind : cdw mX8_likeBehind ∈ wl := (wt (mt_4 (List.mem_of_getElem? (i := 146) rfl)) rfl)
theorem wd_X8_likeBehind : dOk mX8_likeBehind 1 := ⟨(by decide +kernel), (by decide +kernel), (by decide +kernel)⟩
theorem wv_X8_likeBehind : Cond.instanceMethod yX8_likeBehind ∈ wl := (wt (mt_4 (List.mem_of_getElem? (i := 144) rfl)) rfl)
theorem wz_X8_likeBehind : Cond.selects RX8 yX8_likeBehind yX8_likeBehind ∈ wl := (wt (mt_4 (List.mem_of_getElem? (i := 145) rfl)) rfl)
theorem wc_X9_init : cdw mX9_init ∈ wl := (wt (mt_1 (List.mem_of_getElem? (i := 105) rfl)) rfl)
theorem wd_X9_init : dOk mX9_init 0 := ⟨(by decide +kernel), (by decide +kernel), (by decide +kernel)⟩
theorem wv_X9_init : Cond.instanceMethod yX9_init ∈ wl := (wt (mt_1 (List.mem_of_getElem? (i := 104) rfl)) rfl)
theorem wc_X9_append : cdw mX9_append ∈ wl := (wt (mt_3 (List.mem_of_getElem? (i := 73) rfl)) rfl)
theorem wd_X9_append : dOk mX9_append 1 := ⟨(by decide +kernel), (by decide +kernel), (by decide +kernel)⟩
theorem wv_X9_append : Cond.instanceMethod yX9_append ∈ wl := (wt (mt_3 (List.mem_of_getElem? (i := 71) rfl)) rfl)
theorem wz_X9_append : Cond.selects RX9 yX9_append yX9_append ∈ wl := (wt (mt_3 (List.mem_of_getElem? (i := 72) rfl)) rfl)
theorem wc_X10_init : cdw mX10_init ∈ wl := (wt (mt_1 (List.mem_of_getElem? (i := 167) rfl)) rfl)
theorem wd_X10_init : dOk mX10_init 0 := ⟨(by decide +kernel), (by decide +kernel), (by decide +kernel)⟩
theorem wv_X10_init : Cond.instanceMethod yX10_init ∈ wl := (wt (mt_1 (List.mem_of_getElem? (i := 166) rfl)) rfl)
theorem wc_X10_clear : cdw mX10_clear ∈ wl := (wt (mt_4 (List.mem_of_getElem? (i := 56) rfl)) rfl)
theorem wd_X10_clear : dOk mX10_clear 0 := ⟨(by decide +kernel), (by decide +kernel), (by decide +kernel)⟩
theorem wv_X10_clear : Cond.instanceMethod yX10_clear ∈ wl := (wt (mt_4 (List.mem_of_getElem? (i := 54) rfl)) rfl)
theorem wz_X10_clear : Cond.selects RX10 yX10_clear yX10_clear ∈ wl := (wt (mt_4 (List.mem_of_getElem? (i := 55) rfl)) rfl)
theorem wc_X10_add : cdw mX10_add ∈ wl := (wt (mt_4 (List.mem_of_getElem? (i := 60) rfl)) rfl)
theorem wd_X10_add : dOk mX10_add 1 := ⟨(by decide +kernel), (by decide +kernel), (by decide +kernel)⟩
theorem wv_X10_add : Cond.instanceMethod yX10_add ∈ wl := (wt (mt_4 (List.mem_of_getElem? (i := 58) rfl)) rfl)
theorem wz_X10_add : Cond.selects RX10 yX10_add yX10_add ∈ wl := (wt (mt_4 (List.mem_of_getElem? (i := 59) rfl)) rfl)
theorem wc_X11_init : cdw mX11_init ∈ wl := (wt (mt_1 (List.mem_of_getElem? (i := 28) rfl)) rfl)
theorem wd_X11_init : dOk mX11_init 0 := ⟨(by decide +kernel), (by decide +kernel), (by decide +kernel)⟩
theorem wv_X11_init : Cond.instanceMethod yX11_init ∈ wl := (wt (mt_1 (List.mem_of_getElem? (i := 27) rfl)) rfl)
theorem wc_X11_sign : cdw mX11_sign ∈ wl := (wt (mt_3 (List.mem_of_getElem? (i := 69) rfl)) rfl)
theorem wd_X11_sign : dOk mX11_sign 1 := ⟨(by decide +kernel), (by decide +kernel), (by decide +kernel)⟩
theorem wv_X11_sign : Cond.instanceMethod yX11_sign ∈ wl := (wt (mt_3 (List.mem_of_getElem? (i := 67) rfl)) rfl)
theorem wz_X11_sign : Cond.selects RX11 yX11_sign yX11_sign ∈ wl := (wt (mt_3 (List.mem_of_getElem? (i := 68) rfl)) rfl)
theorem wc_X11_end : cdw mX11_end ∈ wl := (wt (mt_3 (List.mem_of_getElem? (i := 77) rfl)) rfl)
theorem wd_X11_end : dOk mX11_end 1 := ⟨(by decide +kernel), (by decide +kernel), (by decide +kernel)⟩
theorem wv_X11_end : Cond.instanceMethod yX11_end ∈ wl := (wt (mt_3 (List.mem_of_getElem? (i := 75) rfl)) rfl)
theorem wz_X11_end : Cond.selects RX11 yX11_end yX11_end ∈ wl := (wt (mt_3 (List.mem_of_getElem? (i := 76) rfl)) rfl)
theorem wc_X11_board : cdw mX11_board ∈ wl := (wt (mt_3 (List.mem_of_getElem? (i := 81) rfl)) rfl)
theorem wd_X11_board : dOk mX11_board 0 := ⟨(by decide +kernel), (by decide +kernel), (by decide +kernel)⟩
theorem wv_X11_board : Cond.instanceMethod yX11_board ∈ wl := (wt (mt_3 (List.mem_of_getElem? (i := 79) rfl)) rfl)
theorem wz_X11_board : Cond.selects RX11 yX11_board yX11_board ∈ wl := (wt (mt_3 (List.mem_of_getElem? (i := 80) rfl)) rfl)
theorem wc_X11_set : cdw mX11_set ∈ wl := (wt (mt_3 (List.mem_of_getElem? (i := 172) rfl)) rfl)
theorem wd_X11_set : dOk mX11_set 2 := ⟨(by decide +kernel), (by decide +kernel), (by decide +kernel)⟩
theorem wv_X11_set : Cond.instanceMethod yX11_set ∈ wl := (wt (mt_3 (List.mem_of_getElem? (i := 170) rfl)) rfl)
theorem wz_X11_set : Cond.selects RX11 yX11_set yX11_set ∈ wl := (wt (mt_3 (List.mem_of_getElem? (i := 171) rfl)) rfl)
theorem wc_X11_lamp : cdw mX11_lamp ∈ wl := (wt (mt_6 (List.mem_of_getElem? (i := 40) rfl)) rfl)
theorem wd_X11_lamp : dOk mX11_lamp 2 := ⟨(by decide +kernel), (by decide +kernel), (by decide +kernel)⟩
theorem wv_X11_lamp : Cond.instanceMethod yX11_lamp ∈ wl := (wt (mt_6 (List.mem_of_getElem? (i := 38) rfl)) rfl)
theorem wz_X11_lamp : Cond.selects RX11 yX11_lamp yX11_lamp ∈ wl := (wt (mt_6 (List.mem_of_getElem? (i := 39) rfl)) rfl)
theorem wc_X11_ohms : cdw mX11_ohms ∈ wl := (wt (mt_3 (List.mem_of_getElem? (i := 176) rfl)) rfl)
theorem wd_X11_ohms : dOk mX11_ohms 1 := ⟨(by decide +kernel), (by decide +kernel), (by decide +kernel)⟩
theorem wv_X11_ohms : Cond.instanceMethod yX11_ohms ∈ wl := (wt (mt_3 (List.mem_of_getElem? (i := 174) rfl)) rfl)
theorem wz_X11_ohms : Cond.selects RX11 yX11_ohms yX11_ohms ∈ wl := (wt (mt_3 (List.mem_of_getElem? (i := 175) rfl)) rfl)
theorem wc_X11_sheet : cdw mX11_sheet ∈ wl := (wt (mt_3 (List.mem_of_getElem? (i := 181) rfl)) rfl)
theorem wd_X11_sheet : dOk mX11_sheet 4 := ⟨(by decide +kernel), (by decide +kernel), (by decide +kernel)⟩
theorem wv_X11_sheet : Cond.instanceMethod yX11_sheet ∈ wl := (wt (mt_3 (List.mem_of_getElem? (i := 179) rfl)) rfl)
theorem wz_X11_sheet : Cond.selects RX11 yX11_sheet yX11_sheet ∈ wl := (wt (mt_3 (List.mem_of_getElem? (i := 180) rfl)) rfl)
theorem wc_X11_swap : cdw mX11_swap ∈ wl := (wt (mt_3 (List.mem_of_getElem? (i := 192) rfl)) rfl)
theorem wd_X11_swap : dOk mX11_swap 2 := ⟨(by decide +kernel), (by decide +kernel), (by decide +kernel)⟩
theorem wv_X11_swap : Cond.instanceMethod yX11_swap ∈ wl := (wt (mt_3 (List.mem_of_getElem? (i := 190) rfl)) rfl)
theorem wz_X11_swap : Cond.selects RX11 yX11_swap yX11_swap ∈ wl := (wt (mt_3 (List.mem_of_getElem? (i := 191) rfl)) rfl)
theorem wc_X11_put : cdw mX11_put ∈ wl := (wt (mt_3 (List.mem_of_getElem? (i := 208) rfl)) rfl)
theorem wd_X11_put : dOk mX11_put 2 := ⟨(by decide +kernel), (by decide +kernel), (by decide +kernel)⟩
theorem wv_X11_put : Cond.instanceMethod yX11_put ∈ wl := (wt (mt_3 (List.mem_of_getElem? (i := 206) rfl)) rfl)
theorem wz_X11_put : Cond.selects RX11 yX11_put yX11_put ∈ wl := (wt (mt_3 (List.mem_of_getElem? (i := 207) rfl)) rfl)
theorem wc_X11_glows : cdw mX11_glows ∈ wl := (wt (mt_4 (List.mem_of_getElem? (i := 34) rfl)) rfl)
theorem wd_X11_glows : dOk mX11_glows 0 := ⟨(by decide +kernel), (by decide +kernel), (by decide +kernel)⟩
theorem wv_X11_glows : Cond.instanceMethod yX11_glows ∈ wl := (wt (mt_4 (List.mem_of_getElem? (i := 32) rfl)) rfl)
theorem wz_X11_glows : Cond.selects RX11 yX11_glows yX11_glows ∈ wl := (wt (mt_4 (List.mem_of_getElem? (i := 33) rfl)) rfl)
theorem wc_X11_ghosts : cdw mX11_ghosts ∈ wl := (wt (mt_4 (List.mem_of_getElem? (i := 38) rfl)) rfl)
theorem wd_X11_ghosts : dOk mX11_ghosts 0 := ⟨(by decide +kernel), (by decide +kernel), (by decide +kernel)⟩
theorem wv_X11_ghosts : Cond.instanceMethod yX11_ghosts ∈ wl := (wt (mt_4 (List.mem_of_getElem? (i := 36) rfl)) rfl)
theorem wz_X11_ghosts : Cond.selects RX11 yX11_ghosts yX11_ghosts ∈ wl := (wt (mt_4 (List.mem_of_getElem? (i := 37) rfl)) rfl)
theorem wc_X11_light : cdw mX11_light ∈ wl := (wt (mt_4 (List.mem_of_getElem? (i := 47) rfl)) rfl)
theorem wd_X11_light : dOk mX11_light 1 := ⟨(by decide +kernel), (by decide +kernel), (by decide +kernel)⟩
theorem wv_X11_light : Cond.instanceMethod yX11_light ∈ wl := (wt (mt_4 (List.mem_of_getElem? (i := 45) rfl)) rfl)
theorem wz_X11_light : Cond.selects RX11 yX11_light yX11_light ∈ wl := (wt (mt_4 (List.mem_of_getElem? (i := 46) rfl)) rfl)
theorem wc_X11_why : cdw mX11_why ∈ wl := (wt (mt_4 (List.mem_of_getElem? (i := 64) rfl)) rfl)
theorem wd_X11_why : dOk mX11_why 1 := ⟨(by decide +kernel), (by decide +kernel), (by decide +kernel)⟩
theorem wv_X11_why : Cond.instanceMethod yX11_why ∈ wl := (wt (mt_4 (List.mem_of_getElem? (i := 62) rfl)) rfl)
theorem wz_X11_why : Cond.selects RX11 yX11_why yX11_why ∈ wl := (wt (mt_4 (List.mem_of_getElem? (i := 63) rfl)) rfl)
theorem wc_X11_draws : cdw mX11_draws ∈ wl := (wt (mt_4 (List.mem_of_getElem? (i := 69) rfl)) rfl)
theorem wd_X11_draws : dOk mX11_draws 1 := ⟨(by decide +kernel), (by decide +kernel), (by decide +kernel)⟩
theorem wv_X11_draws : Cond.instanceMethod yX11_draws ∈ wl := (wt (mt_4 (List.mem_of_getElem? (i := 67) rfl)) rfl)
theorem wz_X11_draws : Cond.selects RX11 yX11_draws yX11_draws ∈ wl := (wt (mt_4 (List.mem_of_getElem? (i := 68) rfl)) rfl)
theorem wc_X11_brightest : cdw mX11_brightest ∈ wl := (wt (mt_4 (List.mem_of_getElem? (i := 73) rfl)) rfl)
theorem wd_X11_brightest : dOk mX11_brightest 0 := ⟨(by decide +kernel), (by decide +kernel), (by decide +kernel)⟩
theorem wv_X11_brightest : Cond.instanceMethod yX11_brightest ∈ wl := (wt (mt_4 (List.mem_of_getElem? (i := 71) rfl)) rfl)
theorem wz_X11_brightest : Cond.selects RX11 yX11_brightest yX11_brightest ∈ wl := (wt (mt_4 (List.mem_of_getElem? (i := 72) rfl)) rfl)
theorem wc_X11_shows : cdw mX11_shows ∈ wl := (wt (mt_4 (List.mem_of_getElem? (i := 78) rfl)) rfl)
theorem wd_X11_shows : dOk mX11_shows 1 := ⟨(by decide +kernel), (by decide +kernel), (by decide +kernel)⟩
theorem wv_X11_shows : Cond.instanceMethod yX11_shows ∈ wl := (wt (mt_4 (List.mem_of_getElem? (i := 76) rfl)) rfl)
theorem wz_X11_shows : Cond.selects RX11 yX11_shows yX11_shows ∈ wl := (wt (mt_4 (List.mem_of_getElem? (i := 77) rfl)) rfl)
theorem wc_X11_bars : cdw mX11_bars ∈ wl := (wt (mt_4 (List.mem_of_getElem? (i := 109) rfl)) rfl)
theorem wd_X11_bars : dOk mX11_bars 1 := ⟨(by decide +kernel), (by decide +kernel), (by decide +kernel)⟩
theorem wv_X11_bars : Cond.instanceMethod yX11_bars ∈ wl := (wt (mt_4 (List.mem_of_getElem? (i := 107) rfl)) rfl)
theorem wz_X11_bars : Cond.selects RX11 yX11_bars yX11_bars ∈ wl := (wt (mt_4 (List.mem_of_getElem? (i := 108) rfl)) rfl)
theorem wc_X11_most : cdw mX11_most ∈ wl := (wt (mt_4 (List.mem_of_getElem? (i := 113) rfl)) rfl)
theorem wd_X11_most : dOk mX11_most 0 := ⟨(by decide +kernel), (by decide +kernel), (by decide +kernel)⟩
theorem wv_X11_most : Cond.instanceMethod yX11_most ∈ wl := (wt (mt_4 (List.mem_of_getElem? (i := 111) rfl)) rfl)
theorem wz_X11_most : Cond.selects RX11 yX11_most yX11_most ∈ wl := (wt (mt_4 (List.mem_of_getElem? (i := 112) rfl)) rfl)
theorem wc_X11_sets : cdw mX11_sets ∈ wl := (wt (mt_4 (List.mem_of_getElem? (i := 117) rfl)) rfl)
theorem wd_X11_sets : dOk mX11_sets 0 := ⟨(by decide +kernel), (by decide +kernel), (by decide +kernel)⟩
theorem wv_X11_sets : Cond.instanceMethod yX11_sets ∈ wl := (wt (mt_4 (List.mem_of_getElem? (i := 115) rfl)) rfl)
theorem wz_X11_sets : Cond.selects RX11 yX11_sets yX11_sets ∈ wl := (wt (mt_4 (List.mem_of_getElem? (i := 116) rfl)) rfl)
theorem wc_X11_fits : cdw mX11_fits ∈ wl := (wt (mt_4 (List.mem_of_getElem? (i := 133) rfl)) rfl)
theorem wd_X11_fits : dOk mX11_fits 2 := ⟨(by decide +kernel), (by decide +kernel), (by decide +kernel)⟩
theorem wv_X11_fits : Cond.instanceMethod yX11_fits ∈ wl := (wt (mt_4 (List.mem_of_getElem? (i := 131) rfl)) rfl)
theorem wz_X11_fits : Cond.selects RX11 yX11_fits yX11_fits ∈ wl := (wt (mt_4 (List.mem_of_getElem? (i := 132) rfl)) rfl)
theorem wc_X11_alone : cdw mX11_alone ∈ wl := (wt (mt_4 (List.mem_of_getElem? (i := 137) rfl)) rfl)
theorem wd_X11_alone : dOk mX11_alone 0 := ⟨(by decide +kernel), (by decide +kernel), (by decide +kernel)⟩
theorem wv_X11_alone : Cond.instanceMethod yX11_alone ∈ wl := (wt (mt_4 (List.mem_of_getElem? (i := 135) rfl)) rfl)
theorem wz_X11_alone : Cond.selects RX11 yX11_alone yX11_alone ∈ wl := (wt (mt_4 (List.mem_of_getElem? (i := 136) rfl)) rfl)
theorem wc_X11_twins : cdw mX11_twins ∈ wl := (wt (mt_4 (List.mem_of_getElem? (i := 142) rfl)) rfl)
theorem wd_X11_twins : dOk mX11_twins 0 := ⟨(by decide +kernel), (by decide +kernel), (by decide +kernel)⟩
theorem wv_X11_twins : Cond.instanceMethod yX11_twins ∈ wl := (wt (mt_4 (List.mem_of_getElem? (i := 140) rfl)) rfl)
theorem wz_X11_twins : Cond.selects RX11 yX11_twins yX11_twins ∈ wl := (wt (mt_4 (List.mem_of_getElem? (i := 141) rfl)) rfl)
theorem wc_X11_range : cdw mX11_range ∈ wl := (wt (mt_4 (List.mem_of_getElem? (i := 150) rfl)) rfl)
theorem wd_X11_range : dOk mX11_range 2 := ⟨(by decide +kernel), (by decide +kernel), (by decide +kernel)⟩
theorem wv_X11_range : Cond.instanceMethod yX11_range ∈ wl := (wt (mt_4 (List.mem_of_getElem? (i := 148) rfl)) rfl)
theorem wz_X11_range : Cond.selects RX11 yX11_range yX11_range ∈ wl := (wt (mt_4 (List.mem_of_getElem? (i := 149) rfl)) rfl)
theorem wc_X11_picture : cdw mX11_picture ∈ wl := (wt (mt_4 (List.mem_of_getElem? (i := 154) rfl)) rfl)
theorem wd_X11_picture : dOk mX11_picture 2 := ⟨(by decide +kernel), (by decide +kernel), (by decide +kernel)⟩
theorem wv_X11_picture : Cond.instanceMethod yX11_picture ∈ wl := (wt (mt_4 (List.mem_of_getElem? (i := 152) rfl)) rfl)
theorem wz_X11_picture : Cond.selects RX11 yX11_picture yX11_picture ∈ wl := (wt (mt_4 (List.mem_of_getElem? (i := 153) rfl)) rfl)
theorem wc_X11_parted : cdw mX11_parted ∈ wl := (wt (mt_4 (List.mem_of_getElem? (i := 161) rfl)) rfl)
theorem wd_X11_parted : dOk mX11_parted 1 := ⟨(by decide +kernel), (by decide +kernel), (by decide +kernel)⟩
theorem wv_X11_parted : Cond.instanceMethod yX11_parted ∈ wl := (wt (mt_4 (List.mem_of_getElem? (i := 159) rfl)) rfl)
theorem wz_X11_parted : Cond.selects RX11 yX11_parted yX11_parted ∈ wl := (wt (mt_4 (List.mem_of_getElem? (i := 160) rfl)) rfl)
theorem wc_X11_proof : cdw mX11_proof ∈ wl := (wt (mt_4 (List.mem_of_getElem? (i := 216) rfl)) rfl)
theorem wd_X11_proof : dOk mX11_proof 1 := ⟨(by decide +kernel), (by decide +kernel), (by decide +kernel)⟩
theorem wv_X11_proof : Cond.instanceMethod yX11_proof ∈ wl := (wt (mt_4 (List.mem_of_getElem? (i := 214) rfl)) rfl)
theorem wz_X11_proof : Cond.selects RX11 yX11_proof yX11_proof ∈ wl := (wt (mt_4 (List.mem_of_getElem? (i := 215) rfl)) rfl)
theorem wc_X11_never : cdw mX11_never ∈ wl := (wt (mt_4 (List.mem_of_getElem? (i := 239) rfl)) rfl)
theorem wd_X11_never : dOk mX11_never 1 := ⟨(by decide +kernel), (by decide +kernel), (by decide +kernel)⟩
theorem wv_X11_never : Cond.instanceMethod yX11_never ∈ wl := (wt (mt_4 (List.mem_of_getElem? (i := 237) rfl)) rfl)
theorem wz_X11_never : Cond.selects RX11 yX11_never yX11_never ∈ wl := (wt (mt_4 (List.mem_of_getElem? (i := 238) rfl)) rfl)
theorem wc_X11_changes : cdw mX11_changes ∈ wl := (wt (mt_5 (List.mem_of_getElem? (i := 4) rfl)) rfl)
theorem wd_X11_changes : dOk mX11_changes 1 := ⟨(by decide +kernel), (by decide +kernel), (by decide +kernel)⟩
theorem wv_X11_changes : Cond.instanceMethod yX11_changes ∈ wl := (wt (mt_5 (List.mem_of_getElem? (i := 2) rfl)) rfl)
theorem wz_X11_changes : Cond.selects RX11 yX11_changes yX11_changes ∈ wl := (wt (mt_5 (List.mem_of_getElem? (i := 3) rfl)) rfl)
theorem wc_X11_even : cdw mX11_even ∈ wl := (wt (mt_5 (List.mem_of_getElem? (i := 21) rfl)) rfl)
theorem wd_X11_even : dOk mX11_even 2 := ⟨(by decide +kernel), (by decide +kernel), (by decide +kernel)⟩
theorem wv_X11_even : Cond.instanceMethod yX11_even ∈ wl := (wt (mt_5 (List.mem_of_getElem? (i := 19) rfl)) rfl)
theorem wz_X11_even : Cond.selects RX11 yX11_even yX11_even ∈ wl := (wt (mt_5 (List.mem_of_getElem? (i := 20) rfl)) rfl)
theorem wc_X11_better : cdw mX11_better ∈ wl := (wt (mt_5 (List.mem_of_getElem? (i := 43) rfl)) rfl)
theorem wd_X11_better : dOk mX11_better 1 := ⟨(by decide +kernel), (by decide +kernel), (by decide +kernel)⟩
theorem wv_X11_better : Cond.instanceMethod yX11_better ∈ wl := (wt (mt_5 (List.mem_of_getElem? (i := 41) rfl)) rfl)
theorem wz_X11_better : Cond.selects RX11 yX11_better yX11_better ∈ wl := (wt (mt_5 (List.mem_of_getElem? (i := 42) rfl)) rfl)
theorem wc_X11_faults : cdw mX11_faults ∈ wl := (wt (mt_5 (List.mem_of_getElem? (i := 51) rfl)) rfl)
theorem wd_X11_faults : dOk mX11_faults 0 := ⟨(by decide +kernel), (by decide +kernel), (by decide +kernel)⟩
theorem wv_X11_faults : Cond.instanceMethod yX11_faults ∈ wl := (wt (mt_5 (List.mem_of_getElem? (i := 49) rfl)) rfl)
theorem wz_X11_faults : Cond.selects RX11 yX11_faults yX11_faults ∈ wl := (wt (mt_5 (List.mem_of_getElem? (i := 50) rfl)) rfl)
theorem wc_X11_fault : cdw mX11_fault ∈ wl := (wt (mt_6 (List.mem_of_getElem? (i := 108) rfl)) rfl)
theorem wd_X11_fault : dOk mX11_fault 2 := ⟨(by decide +kernel), (by decide +kernel), (by decide +kernel)⟩
theorem wv_X11_fault : Cond.instanceMethod yX11_fault ∈ wl := (wt (mt_6 (List.mem_of_getElem? (i := 106) rfl)) rfl)
theorem wz_X11_fault : Cond.selects RX11 yX11_fault yX11_fault ∈ wl := (wt (mt_6 (List.mem_of_getElem? (i := 107) rfl)) rfl)
theorem wc_X11_would : cdw mX11_would ∈ wl := (wt (mt_5 (List.mem_of_getElem? (i := 69) rfl)) rfl)
theorem wd_X11_would : dOk mX11_would 3 := ⟨(by decide +kernel), (by decide +kernel), (by decide +kernel)⟩
theorem wv_X11_would : Cond.instanceMethod yX11_would ∈ wl := (wt (mt_5 (List.mem_of_getElem? (i := 67) rfl)) rfl)
theorem wz_X11_would : Cond.selects RX11 yX11_would yX11_would ∈ wl := (wt (mt_5 (List.mem_of_getElem? (i := 68) rfl)) rfl)
theorem wc_X11_tells : cdw mX11_tells ∈ wl := (wt (mt_5 (List.mem_of_getElem? (i := 113) rfl)) rfl)
theorem wd_X11_tells : dOk mX11_tells 1 := ⟨(by decide +kernel), (by decide +kernel), (by decide +kernel)⟩
theorem wv_X11_tells : Cond.instanceMethod yX11_tells ∈ wl := (wt (mt_5 (List.mem_of_getElem? (i := 111) rfl)) rfl)
theorem wz_X11_tells : Cond.selects RX11 yX11_tells yX11_tells ∈ wl := (wt (mt_5 (List.mem_of_getElem? (i := 112) rfl)) rfl)
theorem wc_X11_hidden : cdw mX11_hidden ∈ wl := (wt (mt_5 (List.mem_of_getElem? (i := 126) rfl)) rfl)
theorem wd_X11_hidden : dOk mX11_hidden 0 := ⟨(by decide +kernel), (by decide +kernel), (by decide +kernel)⟩
theorem wv_X11_hidden : Cond.instanceMethod yX11_hidden ∈ wl := (wt (mt_5 (List.mem_of_getElem? (i := 124) rfl)) rfl)
theorem wz_X11_hidden : Cond.selects RX11 yX11_hidden yX11_hidden ∈ wl := (wt (mt_5 (List.mem_of_getElem? (i := 125) rfl)) rfl)
theorem wc_X11_alike : cdw mX11_alike ∈ wl := (wt (mt_5 (List.mem_of_getElem? (i := 130) rfl)) rfl)
theorem wd_X11_alike : dOk mX11_alike 2 := ⟨(by decide +kernel), (by decide +kernel), (by decide +kernel)⟩
theorem wv_X11_alike : Cond.instanceMethod yX11_alike ∈ wl := (wt (mt_5 (List.mem_of_getElem? (i := 128) rfl)) rfl)
theorem wz_X11_alike : Cond.selects RX11 yX11_alike yX11_alike ∈ wl := (wt (mt_5 (List.mem_of_getElem? (i := 129) rfl)) rfl)
theorem wc_X11_seen : cdw mX11_seen ∈ wl := (wt (mt_5 (List.mem_of_getElem? (i := 134) rfl)) rfl)
theorem wd_X11_seen : dOk mX11_seen 3 := ⟨(by decide +kernel), (by decide +kernel), (by decide +kernel)⟩
theorem wv_X11_seen : Cond.instanceMethod yX11_seen ∈ wl := (wt (mt_5 (List.mem_of_getElem? (i := 132) rfl)) rfl)
theorem wz_X11_seen : Cond.selects RX11 yX11_seen yX11_seen ∈ wl := (wt (mt_5 (List.mem_of_getElem? (i := 133) rfl)) rfl)
theorem wc_X11_forget : cdw mX11_forget ∈ wl := (wt (mt_5 (List.mem_of_getElem? (i := 142) rfl)) rfl)
theorem wd_X11_forget : dOk mX11_forget 0 := ⟨(by decide +kernel), (by decide +kernel), (by decide +kernel)⟩
theorem wv_X11_forget : Cond.instanceMethod yX11_forget ∈ wl := (wt (mt_5 (List.mem_of_getElem? (i := 140) rfl)) rfl)
theorem wz_X11_forget : Cond.selects RX11 yX11_forget yX11_forget ∈ wl := (wt (mt_5 (List.mem_of_getElem? (i := 141) rfl)) rfl)
theorem wc_X11_which : cdw mX11_which ∈ wl := (wt (mt_5 (List.mem_of_getElem? (i := 146) rfl)) rfl)
theorem wd_X11_which : dOk mX11_which 0 := ⟨(by decide +kernel), (by decide +kernel), (by decide +kernel)⟩
theorem wv_X11_which : Cond.instanceMethod yX11_which ∈ wl := (wt (mt_5 (List.mem_of_getElem? (i := 144) rfl)) rfl)
theorem wz_X11_which : Cond.selects RX11 yX11_which yX11_which ∈ wl := (wt (mt_5 (List.mem_of_getElem? (i := 145) rfl)) rfl)
theorem wc_X11_judge : cdw mX11_judge ∈ wl := (wt (mt_5 (List.mem_of_getElem? (i := 158) rfl)) rfl)
theorem wd_X11_judge : dOk mX11_judge 1 := ⟨(by decide +kernel), (by decide +kernel), (by decide +kernel)⟩
theorem wv_X11_judge : Cond.instanceMethod yX11_judge ∈ wl := (wt (mt_5 (List.mem_of_getElem? (i := 156) rfl)) rfl)
theorem wz_X11_judge : Cond.selects RX11 yX11_judge yX11_judge ∈ wl := (wt (mt_5 (List.mem_of_getElem? (i := 157) rfl)) rfl)
theorem wc_X11_next : cdw mX11_next ∈ wl := (wt (mt_5 (List.mem_of_getElem? (i := 163) rfl)) rfl)
theorem wd_X11_next : dOk mX11_next 0 := ⟨(by decide +kernel), (by decide +kernel), (by decide +kernel)⟩
theorem wv_X11_next : Cond.instanceMethod yX11_next ∈ wl := (wt (mt_5 (List.mem_of_getElem? (i := 161) rfl)) rfl)
theorem wz_X11_next : Cond.selects RX11 yX11_next yX11_next ∈ wl := (wt (mt_5 (List.mem_of_getElem? (i := 162) rfl)) rfl)
theorem wc_X11_test : cdw mX11_test ∈ wl := (wt (mt_5 (List.mem_of_getElem? (i := 176) rfl)) rfl)
theorem wd_X11_test : dOk mX11_test 2 := ⟨(by decide +kernel), (by decide +kernel), (by decide +kernel)⟩
theorem wv_X11_test : Cond.instanceMethod yX11_test ∈ wl := (wt (mt_5 (List.mem_of_getElem? (i := 174) rfl)) rfl)
theorem wz_X11_test : Cond.selects RX11 yX11_test yX11_test ∈ wl := (wt (mt_5 (List.mem_of_getElem? (i := 175) rfl)) rfl)
theorem wc_X11_tree : cdw mX11_tree ∈ wl := (wt (mt_5 (List.mem_of_getElem? (i := 184) rfl)) rfl)
theorem wd_X11_tree : dOk mX11_tree 0 := ⟨(by decide +kernel), (by decide +kernel), (by decide +kernel)⟩
theorem wv_X11_tree : Cond.instanceMethod yX11_tree ∈ wl := (wt (mt_5 (List.mem_of_getElem? (i := 182) rfl)) rfl)
theorem wz_X11_tree : Cond.selects RX11 yX11_tree yX11_tree ∈ wl := (wt (mt_5 (List.mem_of_getElem? (i := 183) rfl)) rfl)
theorem wc_X11_path : cdw mX11_path ∈ wl := (wt (mt_5 (List.mem_of_getElem? (i := 237) rfl)) rfl)
theorem wd_X11_path : dOk mX11_path 1 := ⟨(by decide +kernel), (by decide +kernel), (by decide +kernel)⟩
theorem wv_X11_path : Cond.instanceMethod yX11_path ∈ wl := (wt (mt_5 (List.mem_of_getElem? (i := 235) rfl)) rfl)
theorem wz_X11_path : Cond.selects RX11 yX11_path yX11_path ∈ wl := (wt (mt_5 (List.mem_of_getElem? (i := 236) rfl)) rfl)
theorem wc_X11_keep : cdw mX11_keep ∈ wl := (wt (mt_6 (List.mem_of_getElem? (i := 9) rfl)) rfl)
theorem wd_X11_keep : dOk mX11_keep 1 := ⟨(by decide +kernel), (by decide +kernel), (by decide +kernel)⟩
theorem wv_X11_keep : Cond.instanceMethod yX11_keep ∈ wl := (wt (mt_6 (List.mem_of_getElem? (i := 7) rfl)) rfl)
theorem wz_X11_keep : Cond.selects RX11 yX11_keep yX11_keep ∈ wl := (wt (mt_6 (List.mem_of_getElem? (i := 8) rfl)) rfl)
theorem wc_X11_again : cdw mX11_again ∈ wl := (wt (mt_6 (List.mem_of_getElem? (i := 23) rfl)) rfl)
theorem wd_X11_again : dOk mX11_again 1 := ⟨(by decide +kernel), (by decide +kernel), (by decide +kernel)⟩
theorem wv_X11_again : Cond.instanceMethod yX11_again ∈ wl := (wt (mt_6 (List.mem_of_getElem? (i := 21) rfl)) rfl)
theorem wz_X11_again : Cond.selects RX11 yX11_again yX11_again ∈ wl := (wt (mt_6 (List.mem_of_getElem? (i := 22) rfl)) rfl)
theorem wc_X11_count : cdw mX11_count ∈ wl := (wt (mt_6 (List.mem_of_getElem? (i := 32) rfl)) rfl)
theorem wd_X11_count : dOk mX11_count 1 := ⟨(by decide +kernel), (by decide +kernel), (by decide +kernel)⟩
theorem wv_X11_count : Cond.instanceMethod yX11_count ∈ wl := (wt (mt_6 (List.mem_of_getElem? (i := 30) rfl)) rfl)
theorem wz_X11_count : Cond.selects RX11 yX11_count yX11_count ∈ wl := (wt (mt_6 (List.mem_of_getElem? (i := 31) rfl)) rfl)
theorem wc_X11_row : cdw mX11_row ∈ wl := (wt (mt_6 (List.mem_of_getElem? (i := 121) rfl)) rfl)
theorem wd_X11_row : dOk mX11_row 1 := ⟨(by decide +kernel), (by decide +kernel), (by decide +kernel)⟩
theorem wv_X11_row : Cond.instanceMethod yX11_row ∈ wl := (wt (mt_6 (List.mem_of_getElem? (i := 119) rfl)) rfl)
theorem wz_X11_row : Cond.selects RX11 yX11_row yX11_row ∈ wl := (wt (mt_6 (List.mem_of_getElem? (i := 120) rfl)) rfl)
theorem wc_X11_takeLine : cdw mX11_takeLine ∈ wl := (wt (mt_3 (List.mem_of_getElem? (i := 140) rfl)) rfl)
theorem wd_X11_takeLine : dOk mX11_takeLine 1 := ⟨(by decide +kernel), (by decide +kernel), (by decide +kernel)⟩
theorem wv_X11_takeLine : Cond.instanceMethod yX11_takeLine ∈ wl := (wt (mt_3 (List.mem_of_getElem? (i := 139) rfl)) rfl)
theorem wz_X11_takeLine : Cond.selects RX11 yX11_takeLine yX11_takeLine ∈ wl := wp (mp_1 (List.mem_of_getElem? (i := 12) rfl))
theorem wc_X11_entryAs : cdw mX11_entryAs ∈ wl := (wt (mt_3 (List.mem_of_getElem? (i := 184) rfl)) rfl)
theorem wd_X11_entryAs : dOk mX11_entryAs 2 := ⟨(by decide +kernel), (by decide +kernel), (by decide +kernel)⟩
theorem ws_X11_entryAs : Cond.static yX11_entryAs ∈ wl := (wt (mt_3 (List.mem_of_getElem? (i := 183) rfl)) rfl)
theorem wc_X11_isSearchable : cdw mX11_isSearchable ∈ wl := (wt (mt_4 (List.mem_of_getElem? (i := 90) rfl)) rfl)
theorem wd_X11_isSearchable : dOk mX11_isSearchable 0 := ⟨(by decide +kernel), (by decide +kernel), (by decide +kernel)⟩
theorem wv_X11_isSearchable : Cond.instanceMethod yX11_isSearchable ∈ wl := (wt (mt_4 (List.mem_of_getElem? (i := 89) rfl)) rfl)
theorem wz_X11_isSearchable : Cond.selects RX11 yX11_isSearchable yX11_isSearchable ∈ wl := wp (mp_2 (List.mem_of_getElem? (i := 4) rfl))
theorem wc_X11_openTable : cdw mX11_openTable ∈ wl := (wt (mt_4 (List.mem_of_getElem? (i := 86) rfl)) rfl)
theorem wd_X11_openTable : dOk mX11_openTable 0 := ⟨(by decide +kernel), (by decide +kernel), (by decide +kernel)⟩
theorem wv_X11_openTable : Cond.instanceMethod yX11_openTable ∈ wl := (wt (mt_4 (List.mem_of_getElem? (i := 85) rfl)) rfl)
theorem wz_X11_openTable : Cond.selects RX11 yX11_openTable yX11_openTable ∈ wl := wp (mp_2 (List.mem_of_getElem? (i := 3) rfl))
theorem wc_X11_isPicture : cdw mX11_isPicture ∈ wl := (wt (mt_4 (List.mem_of_getElem? (i := 157) rfl)) rfl)
theorem wd_X11_isPicture : dOk mX11_isPicture 1 := ⟨(by decide +kernel), (by decide +kernel), (by decide +kernel)⟩
theorem ws_X11_isPicture : Cond.static yX11_isPicture ∈ wl := (wt (mt_4 (List.mem_of_getElem? (i := 156) rfl)) rfl)
theorem wc_X11_openParting : cdw mX11_openParting ∈ wl := (wt (mt_4 (List.mem_of_getElem? (i := 169) rfl)) rfl)
theorem wd_X11_openParting : dOk mX11_openParting 1 := ⟨(by decide +kernel), (by decide +kernel), (by decide +kernel)⟩
theorem wv_X11_openParting : Cond.instanceMethod yX11_openParting ∈ wl := (wt (mt_4 (List.mem_of_getElem? (i := 168) rfl)) rfl)
theorem wz_X11_openParting : Cond.selects RX11 yX11_openParting yX11_openParting ∈ wl := wp (mp_2 (List.mem_of_getElem? (i := 7) rfl))
theorem wc_X11_partInto : cdw mX11_partInto ∈ wl := (wt (mt_4 (List.mem_of_getElem? (i := 165) rfl)) rfl)
theorem wd_X11_partInto : dOk mX11_partInto 1 := ⟨(by decide +kernel), (by decide +kernel), (by decide +kernel)⟩
theorem wv_X11_partInto : Cond.instanceMethod yX11_partInto ∈ wl := (wt (mt_4 (List.mem_of_getElem? (i := 164) rfl)) rfl)
theorem wz_X11_partInto : Cond.selects RX11 yX11_partInto yX11_partInto ∈ wl := wp (mp_2 (List.mem_of_getElem? (i := 6) rfl))
theorem wc_X11_partTraded : cdw mX11_partTraded ∈ wl := (wt (mt_5 (List.mem_of_getElem? (i := 47) rfl)) rfl)
theorem wd_X11_partTraded : dOk mX11_partTraded 3 := ⟨(by decide +kernel), (by decide +kernel), (by decide +kernel)⟩
theorem wv_X11_partTraded : Cond.instanceMethod yX11_partTraded ∈ wl := (wt (mt_5 (List.mem_of_getElem? (i := 46) rfl)) rfl)
theorem wz_X11_partTraded : Cond.selects RX11 yX11_partTraded yX11_partTraded ∈ wl := wp (mp_3 (List.mem_of_getElem? (i := 5) rfl))
theorem wc_X11_tellTurns : cdw mX11_tellTurns ∈ wl := (wt (mt_4 (List.mem_of_getElem? (i := 212) rfl)) rfl)
theorem wd_X11_tellTurns : dOk mX11_tellTurns 2 := ⟨(by decide +kernel), (by decide +kernel), (by decide +kernel)⟩
theorem wv_X11_tellTurns : Cond.instanceMethod yX11_tellTurns ∈ wl := (wt (mt_4 (List.mem_of_getElem? (i := 211) rfl)) rfl)
theorem wz_X11_tellTurns : Cond.selects RX11 yX11_tellTurns yX11_tellTurns ∈ wl := wp (mp_2 (List.mem_of_getElem? (i := 13) rfl))
theorem wc_X11_settingsOf : cdw mX11_settingsOf ∈ wl := (wt (mt_4 (List.mem_of_getElem? (i := 97) rfl)) rfl)
theorem wd_X11_settingsOf : dOk mX11_settingsOf 1 := ⟨(by decide +kernel), (by decide +kernel), (by decide +kernel)⟩
theorem ws_X11_settingsOf : Cond.static yX11_settingsOf ∈ wl := (wt (mt_4 (List.mem_of_getElem? (i := 96) rfl)) rfl)
theorem wc_X11_wiresThatAre : cdw mX11_wiresThatAre ∈ wl := (wt (mt_4 (List.mem_of_getElem? (i := 101) rfl)) rfl)
theorem wd_X11_wiresThatAre : dOk mX11_wiresThatAre 3 := ⟨(by decide +kernel), (by decide +kernel), (by decide +kernel)⟩
theorem ws_X11_wiresThatAre : Cond.static yX11_wiresThatAre ∈ wl := (wt (mt_4 (List.mem_of_getElem? (i := 100) rfl)) rfl)
theorem wc_X12_init : cdw mX12_init ∈ wl := (wt (mt_6 (List.mem_of_getElem? (i := 126) rfl)) rfl)
theorem wd_X12_init : dOk mX12_init 0 := ⟨(by decide +kernel), (by decide +kernel), (by decide +kernel)⟩
theorem wv_X12_init : Cond.instanceMethod yX12_init ∈ wl := (wt (mt_6 (List.mem_of_getElem? (i := 125) rfl)) rfl)
theorem wc_X12_thrown : cdw mX12_thrown ∈ wl := (wt (mt_7 (List.mem_of_getElem? (i := 119) rfl)) rfl)
theorem wd_X12_thrown : dOk mX12_thrown 0 := ⟨(by decide +kernel), (by decide +kernel), (by decide +kernel)⟩
theorem wv_X12_thrown : Cond.instanceMethod yX12_thrown ∈ wl := (wt (mt_7 (List.mem_of_getElem? (i := 117) rfl)) rfl)
theorem wz_X12_thrown : Cond.selects RX12 yX12_thrown yX12_thrown ∈ wl := (wt (mt_7 (List.mem_of_getElem? (i := 118) rfl)) rfl)
theorem wc_X12_in : cdw mX12_in ∈ wl := (wt (mt_7 (List.mem_of_getElem? (i := 130) rfl)) rfl)
theorem wd_X12_in : dOk mX12_in 3 := ⟨(by decide +kernel), (by decide +kernel), (by decide +kernel)⟩
theorem ws_X12_in : Cond.static yX12_in ∈ wl := (wt (mt_7 (List.mem_of_getElem? (i := 129) rfl)) rfl)
theorem wc_X12_has : cdw mX12_has ∈ wl := (wt (mt_8 (List.mem_of_getElem? (i := 9) rfl)) rfl)
theorem wd_X12_has : dOk mX12_has 2 := ⟨(by decide +kernel), (by decide +kernel), (by decide +kernel)⟩
theorem ws_X12_has : Cond.static yX12_has ∈ wl := (wt (mt_8 (List.mem_of_getElem? (i := 8) rfl)) rfl)
theorem wc_X12_lost : cdw mX12_lost ∈ wl := (wt (mt_7 (List.mem_of_getElem? (i := 180) rfl)) rfl)
theorem wd_X12_lost : dOk mX12_lost 0 := ⟨(by decide +kernel), (by decide +kernel), (by decide +kernel)⟩
theorem wv_X12_lost : Cond.instanceMethod yX12_lost ∈ wl := (wt (mt_7 (List.mem_of_getElem? (i := 179) rfl)) rfl)
theorem wz_X12_lost : Cond.selects RX12 yX12_lost yX12_lost ∈ wl := wp (mp_4 (List.mem_of_getElem? (i := 9) rfl))
theorem wc_X12_tell : cdw mX12_tell ∈ wl := (wt (mt_8 (List.mem_of_getElem? (i := 60) rfl)) rfl)
theorem wd_X12_tell : dOk mX12_tell 1 := ⟨(by decide +kernel), (by decide +kernel), (by decide +kernel)⟩
theorem wv_X12_tell : Cond.instanceMethod yX12_tell ∈ wl := (wt (mt_8 (List.mem_of_getElem? (i := 59) rfl)) rfl)
theorem wz_X12_tell : Cond.selects RX12 yX12_tell yX12_tell ∈ wl := wp (mp_5 (List.mem_of_getElem? (i := 13) rfl))
theorem wc_X12_isWire : cdw mX12_isWire ∈ wl := (wt (mt_7 (List.mem_of_getElem? (i := 188) rfl)) rfl)
theorem wd_X12_isWire : dOk mX12_isWire 1 := ⟨(by decide +kernel), (by decide +kernel), (by decide +kernel)⟩
theorem wv_X12_isWire : Cond.instanceMethod yX12_isWire ∈ wl := (wt (mt_7 (List.mem_of_getElem? (i := 187) rfl)) rfl)
theorem wz_X12_isWire : Cond.selects RX12 yX12_isWire yX12_isWire ∈ wl := wp (mp_4 (List.mem_of_getElem? (i := 10) rfl))
theorem wc_X12_isLamp : cdw mX12_isLamp ∈ wl := (wt (mt_7 (List.mem_of_getElem? (i := 176) rfl)) rfl)
theorem wd_X12_isLamp : dOk mX12_isLamp 1 := ⟨(by decide +kernel), (by decide +kernel), (by decide +kernel)⟩
theorem wv_X12_isLamp : Cond.instanceMethod yX12_isLamp ∈ wl := (wt (mt_7 (List.mem_of_getElem? (i := 175) rfl)) rfl)
theorem wz_X12_isLamp : Cond.selects RX12 yX12_isLamp yX12_isLamp ∈ wl := wp (mp_4 (List.mem_of_getElem? (i := 8) rfl))
theorem wc_X12_areLamps : cdw mX12_areLamps ∈ wl := (wt (mt_8 (List.mem_of_getElem? (i := 81) rfl)) rfl)
theorem wd_X12_areLamps : dOk mX12_areLamps 1 := ⟨(by decide +kernel), (by decide +kernel), (by decide +kernel)⟩
theorem wv_X12_areLamps : Cond.instanceMethod yX12_areLamps ∈ wl := (wt (mt_8 (List.mem_of_getElem? (i := 80) rfl)) rfl)
theorem wz_X12_areLamps : Cond.selects RX12 yX12_areLamps yX12_areLamps ∈ wl := wp (mp_5 (List.mem_of_getElem? (i := 14) rfl))
theorem wc_X12_isSetting : cdw mX12_isSetting ∈ wl := (wt (mt_7 (List.mem_of_getElem? (i := 210) rfl)) rfl)
theorem wd_X12_isSetting : dOk mX12_isSetting 2 := ⟨(by decide +kernel), (by decide +kernel), (by decide +kernel)⟩
theorem wv_X12_isSetting : Cond.instanceMethod yX12_isSetting ∈ wl := (wt (mt_7 (List.mem_of_getElem? (i := 209) rfl)) rfl)
theorem wz_X12_isSetting : Cond.selects RX12 yX12_isSetting yX12_isSetting ∈ wl := wp (mp_4 (List.mem_of_getElem? (i := 12) rfl))
theorem wc_X12_sign : cdw mX12_sign ∈ wl := (wt (mt_7 (List.mem_of_getElem? (i := 123) rfl)) rfl)
theorem wd_X12_sign : dOk mX12_sign 1 := ⟨(by decide +kernel), (by decide +kernel), (by decide +kernel)⟩
theorem wv_X12_sign : Cond.instanceMethod yX12_sign ∈ wl := (wt (mt_7 (List.mem_of_getElem? (i := 121) rfl)) rfl)
theorem wz_X12_sign : Cond.selects RX12 yX12_sign yX12_sign ∈ wl := (wt (mt_7 (List.mem_of_getElem? (i := 122) rfl)) rfl)
theorem wc_X12_end : cdw mX12_end ∈ wl := (wt (mt_7 (List.mem_of_getElem? (i := 127) rfl)) rfl)
theorem wd_X12_end : dOk mX12_end 1 := ⟨(by decide +kernel), (by decide +kernel), (by decide +kernel)⟩
theorem wv_X12_end : Cond.instanceMethod yX12_end ∈ wl := (wt (mt_7 (List.mem_of_getElem? (i := 125) rfl)) rfl)
theorem wz_X12_end : Cond.selects RX12 yX12_end yX12_end ∈ wl := (wt (mt_7 (List.mem_of_getElem? (i := 126) rfl)) rfl)
theorem wc_X12_here : cdw mX12_here ∈ wl := (wt (mt_7 (List.mem_of_getElem? (i := 142) rfl)) rfl)
theorem wd_X12_here : dOk mX12_here 0 := ⟨(by decide +kernel), (by decide +kernel), (by decide +kernel)⟩
theorem wv_X12_here : Cond.instanceMethod yX12_here ∈ wl := (wt (mt_7 (List.mem_of_getElem? (i := 141) rfl)) rfl)
theorem wz_X12_here : Cond.selects RX12 yX12_here yX12_here ∈ wl := wp (mp_4 (List.mem_of_getElem? (i := 3) rfl))
theorem wc_X12_fault : cdw mX12_fault ∈ wl := (wt (mt_7 (List.mem_of_getElem? (i := 152) rfl)) rfl)
theorem wd_X12_fault : dOk mX12_fault 1 := ⟨(by decide +kernel), (by decide +kernel), (by decide +kernel)⟩
theorem wv_X12_fault : Cond.instanceMethod yX12_fault ∈ wl := (wt (mt_7 (List.mem_of_getElem? (i := 151) rfl)) rfl)
theorem wz_X12_fault : Cond.selects RX12 yX12_fault yX12_fault ∈ wl := wp (mp_4 (List.mem_of_getElem? (i := 5) rfl))
theorem wc_X12_passes : cdw mX12_passes ∈ wl := (wt (mt_7 (List.mem_of_getElem? (i := 138) rfl)) rfl)
theorem wd_X12_passes : dOk mX12_passes 1 := ⟨(by decide +kernel), (by decide +kernel), (by decide +kernel)⟩
theorem wv_X12_passes : Cond.instanceMethod yX12_passes ∈ wl := (wt (mt_7 (List.mem_of_getElem? (i := 137) rfl)) rfl)
theorem wz_X12_passes : Cond.selects RX12 yX12_passes yX12_passes ∈ wl := wp (mp_4 (List.mem_of_getElem? (i := 2) rfl))
theorem wc_X12_need : cdw mX12_need ∈ wl := (wt (mt_7 (List.mem_of_getElem? (i := 156) rfl)) rfl)
theorem wd_X12_need : dOk mX12_need 1 := ⟨(by decide +kernel), (by decide +kernel), (by decide +kernel)⟩
theorem wv_X12_need : Cond.instanceMethod yX12_need ∈ wl := (wt (mt_7 (List.mem_of_getElem? (i := 155) rfl)) rfl)
theorem wz_X12_need : Cond.selects RX12 yX12_need yX12_need ∈ wl := wp (mp_4 (List.mem_of_getElem? (i := 6) rfl))
theorem wc_X12_number : cdw mX12_number ∈ wl := (wt (mt_7 (List.mem_of_getElem? (i := 146) rfl)) rfl)
theorem wd_X12_number : dOk mX12_number 3 := ⟨(by decide +kernel), (by decide +kernel), (by decide +kernel)⟩
theorem wv_X12_number : Cond.instanceMethod yX12_number ∈ wl := (wt (mt_7 (List.mem_of_getElem? (i := 145) rfl)) rfl)
theorem wz_X12_number : Cond.selects RX12 yX12_number yX12_number ∈ wl := wp (mp_4 (List.mem_of_getElem? (i := 4) rfl))
theorem wc_X12_board : cdw mX12_board ∈ wl := (wt (mt_7 (List.mem_of_getElem? (i := 134) rfl)) rfl)
theorem wd_X12_board : dOk mX12_board 0 := ⟨(by decide +kernel), (by decide +kernel), (by decide +kernel)⟩
theorem wv_X12_board : Cond.instanceMethod yX12_board ∈ wl := (wt (mt_7 (List.mem_of_getElem? (i := 132) rfl)) rfl)
theorem wz_X12_board : Cond.selects RX12 yX12_board yX12_board ∈ wl := (wt (mt_7 (List.mem_of_getElem? (i := 133) rfl)) rfl)
theorem wc_X12_take : cdw mX12_take ∈ wl := (wt (mt_7 (List.mem_of_getElem? (i := 160) rfl)) rfl)
theorem wd_X12_take : dOk mX12_take 1 := ⟨(by decide +kernel), (by decide +kernel), (by decide +kernel)⟩
theorem wv_X12_take : Cond.instanceMethod yX12_take ∈ wl := (wt (mt_7 (List.mem_of_getElem? (i := 159) rfl)) rfl)
theorem wz_X12_take : Cond.selects RX12 yX12_take yX12_take ∈ wl := wp (mp_4 (List.mem_of_getElem? (i := 7) rfl))
theorem wc_X12_set : cdw mX12_set ∈ wl := (wt (mt_7 (List.mem_of_getElem? (i := 164) rfl)) rfl)
theorem wd_X12_set : dOk mX12_set 2 := ⟨(by decide +kernel), (by decide +kernel), (by decide +kernel)⟩
theorem wv_X12_set : Cond.instanceMethod yX12_set ∈ wl := (wt (mt_7 (List.mem_of_getElem? (i := 162) rfl)) rfl)
theorem wz_X12_set : Cond.selects RX12 yX12_set yX12_set ∈ wl := (wt (mt_7 (List.mem_of_getElem? (i := 163) rfl)) rfl)
theorem wc_X12_lamp : cdw mX12_lamp ∈ wl := (wt (mt_7 (List.mem_of_getElem? (i := 172) rfl)) rfl)
theorem wd_X12_lamp : dOk mX12_lamp 2 := ⟨(by decide +kernel), (by decide +kernel), (by decide +kernel)⟩
theorem wv_X12_lamp : Cond.instanceMethod yX12_lamp ∈ wl := (wt (mt_7 (List.mem_of_getElem? (i := 170) rfl)) rfl)
theorem wz_X12_lamp : Cond.selects RX12 yX12_lamp yX12_lamp ∈ wl := (wt (mt_7 (List.mem_of_getElem? (i := 171) rfl)) rfl)
theorem wc_X12_ohms : cdw mX12_ohms ∈ wl := (wt (mt_7 (List.mem_of_getElem? (i := 184) rfl)) rfl)
theorem wd_X12_ohms : dOk mX12_ohms 1 := ⟨(by decide +kernel), (by decide +kernel), (by decide +kernel)⟩
theorem wv_X12_ohms : Cond.instanceMethod yX12_ohms ∈ wl := (wt (mt_7 (List.mem_of_getElem? (i := 182) rfl)) rfl)
theorem wz_X12_ohms : Cond.selects RX12 yX12_ohms yX12_ohms ∈ wl := (wt (mt_7 (List.mem_of_getElem? (i := 183) rfl)) rfl)
theorem wc_X12_sheet : cdw mX12_sheet ∈ wl := (wt (mt_7 (List.mem_of_getElem? (i := 192) rfl)) rfl)
theorem wd_X12_sheet : dOk mX12_sheet 4 := ⟨(by decide +kernel), (by decide +kernel), (by decide +kernel)⟩
theorem wv_X12_sheet : Cond.instanceMethod yX12_sheet ∈ wl := (wt (mt_7 (List.mem_of_getElem? (i := 190) rfl)) rfl)
theorem wz_X12_sheet : Cond.selects RX12 yX12_sheet yX12_sheet ∈ wl := (wt (mt_7 (List.mem_of_getElem? (i := 191) rfl)) rfl)
theorem wc_X12_change : cdw mX12_change ∈ wl := (wt (mt_7 (List.mem_of_getElem? (i := 202) rfl)) rfl)
theorem wd_X12_change : dOk mX12_change 2 := ⟨(by decide +kernel), (by decide +kernel), (by decide +kernel)⟩
theorem wv_X12_change : Cond.instanceMethod yX12_change ∈ wl := (wt (mt_7 (List.mem_of_getElem? (i := 201) rfl)) rfl)
theorem wz_X12_change : Cond.selects RX12 yX12_change yX12_change ∈ wl := wp (mp_4 (List.mem_of_getElem? (i := 11) rfl))
theorem wc_X12_swap : cdw mX12_swap ∈ wl := (wt (mt_7 (List.mem_of_getElem? (i := 198) rfl)) rfl)
theorem wd_X12_swap : dOk mX12_swap 2 := ⟨(by decide +kernel), (by decide +kernel), (by decide +kernel)⟩
theorem wv_X12_swap : Cond.instanceMethod yX12_swap ∈ wl := (wt (mt_7 (List.mem_of_getElem? (i := 196) rfl)) rfl)
theorem wz_X12_swap : Cond.selects RX12 yX12_swap yX12_swap ∈ wl := (wt (mt_7 (List.mem_of_getElem? (i := 197) rfl)) rfl)
theorem wc_X12_touchFirst : cdw mX12_touchFirst ∈ wl := (wt (mt_7 (List.mem_of_getElem? (i := 230) rfl)) rfl)
theorem wd_X12_touchFirst : dOk mX12_touchFirst 0 := ⟨(by decide +kernel), (by decide +kernel), (by decide +kernel)⟩
theorem wv_X12_touchFirst : Cond.instanceMethod yX12_touchFirst ∈ wl := (wt (mt_7 (List.mem_of_getElem? (i := 229) rfl)) rfl)
theorem wz_X12_touchFirst : Cond.selects RX12 yX12_touchFirst yX12_touchFirst ∈ wl := wp (mp_5 (List.mem_of_getElem? (i := 1) rfl))
theorem wc_X12_turnedFirst : cdw mX12_turnedFirst ∈ wl := (wt (mt_7 (List.mem_of_getElem? (i := 234) rfl)) rfl)
theorem wd_X12_turnedFirst : dOk mX12_turnedFirst 0 := ⟨(by decide +kernel), (by decide +kernel), (by decide +kernel)⟩
theorem wv_X12_turnedFirst : Cond.instanceMethod yX12_turnedFirst ∈ wl := (wt (mt_7 (List.mem_of_getElem? (i := 233) rfl)) rfl)
theorem wz_X12_turnedFirst : Cond.selects RX12 yX12_turnedFirst yX12_turnedFirst ∈ wl := wp (mp_5 (List.mem_of_getElem? (i := 2) rfl))
theorem wc_X12_faultMany : cdw mX12_faultMany ∈ wl := (wt (mt_8 (List.mem_of_getElem? (i := 215) rfl)) rfl)
theorem wd_X12_faultMany : dOk mX12_faultMany 0 := ⟨(by decide +kernel), (by decide +kernel), (by decide +kernel)⟩
theorem wv_X12_faultMany : Cond.instanceMethod yX12_faultMany ∈ wl := (wt (mt_8 (List.mem_of_getElem? (i := 214) rfl)) rfl)
theorem wz_X12_faultMany : Cond.selects RX12 yX12_faultMany yX12_faultMany ∈ wl := wp (mp_6 (List.mem_of_getElem? (i := 15) rfl))
theorem wc_X12_isFault : cdw mX12_isFault ∈ wl := (wt (mt_8 (List.mem_of_getElem? (i := 223) rfl)) rfl)
theorem wd_X12_isFault : dOk mX12_isFault 1 := ⟨(by decide +kernel), (by decide +kernel), (by decide +kernel)⟩
theorem wv_X12_isFault : Cond.instanceMethod yX12_isFault ∈ wl := (wt (mt_8 (List.mem_of_getElem? (i := 222) rfl)) rfl)
theorem wz_X12_isFault : Cond.selects RX12 yX12_isFault yX12_isFault ∈ wl := wp (mp_7 (List.mem_of_getElem? (i := 0) rfl))
theorem wc_X12_kindOf : cdw mX12_kindOf ∈ wl := (wt (mt_7 (List.mem_of_getElem? (i := 226) rfl)) rfl)
theorem wd_X12_kindOf : dOk mX12_kindOf 1 := ⟨(by decide +kernel), (by decide +kernel), (by decide +kernel)⟩
theorem wv_X12_kindOf : Cond.instanceMethod yX12_kindOf ∈ wl := (wt (mt_7 (List.mem_of_getElem? (i := 225) rfl)) rfl)
theorem wz_X12_kindOf : Cond.selects RX12 yX12_kindOf yX12_kindOf ∈ wl := wp (mp_5 (List.mem_of_getElem? (i := 0) rfl))
theorem wc_X12_findFault : cdw mX12_findFault ∈ wl := (wt (mt_7 (List.mem_of_getElem? (i := 222) rfl)) rfl)
theorem wd_X12_findFault : dOk mX12_findFault 1 := ⟨(by decide +kernel), (by decide +kernel), (by decide +kernel)⟩
theorem wv_X12_findFault : Cond.instanceMethod yX12_findFault ∈ wl := (wt (mt_7 (List.mem_of_getElem? (i := 221) rfl)) rfl)
theorem wz_X12_findFault : Cond.selects RX12 yX12_findFault yX12_findFault ∈ wl := wp (mp_4 (List.mem_of_getElem? (i := 15) rfl))
theorem wc_X12_lay : cdw mX12_lay ∈ wl := (wt (mt_7 (List.mem_of_getElem? (i := 218) rfl)) rfl)
theorem wd_X12_lay : dOk mX12_lay 1 := ⟨(by decide +kernel), (by decide +kernel), (by decide +kernel)⟩
theorem wv_X12_lay : Cond.instanceMethod yX12_lay ∈ wl := (wt (mt_7 (List.mem_of_getElem? (i := 217) rfl)) rfl)
theorem wz_X12_lay : Cond.selects RX12 yX12_lay yX12_lay ∈ wl := wp (mp_4 (List.mem_of_getElem? (i := 14) rfl))
theorem wc_X12_begin : cdw mX12_begin ∈ wl := (wt (mt_8 (List.mem_of_getElem? (i := 6) rfl)) rfl)
theorem wd_X12_begin : dOk mX12_begin 2 := ⟨(by decide +kernel), (by decide +kernel), (by decide +kernel)⟩
theorem wv_X12_begin : Cond.instanceMethod yX12_begin ∈ wl := (wt (mt_8 (List.mem_of_getElem? (i := 5) rfl)) rfl)
theorem wz_X12_begin : Cond.selects RX12 yX12_begin yX12_begin ∈ wl := wp (mp_5 (List.mem_of_getElem? (i := 5) rfl))
theorem wc_X12_ohmsOf : cdw mX12_ohmsOf ∈ wl := (wt (mt_8 (List.mem_of_getElem? (i := 22) rfl)) rfl)
theorem wd_X12_ohmsOf : dOk mX12_ohmsOf 1 := ⟨(by decide +kernel), (by decide +kernel), (by decide +kernel)⟩
theorem wv_X12_ohmsOf : Cond.instanceMethod yX12_ohmsOf ∈ wl := (wt (mt_8 (List.mem_of_getElem? (i := 21) rfl)) rfl)
theorem wz_X12_ohmsOf : Cond.selects RX12 yX12_ohmsOf yX12_ohmsOf ∈ wl := wp (mp_5 (List.mem_of_getElem? (i := 8) rfl))
theorem wc_X12_shine : cdw mX12_shine ∈ wl := (wt (mt_8 (List.mem_of_getElem? (i := 2) rfl)) rfl)
theorem wd_X12_shine : dOk mX12_shine 2 := ⟨(by decide +kernel), (by decide +kernel), (by decide +kernel)⟩
theorem wv_X12_shine : Cond.instanceMethod yX12_shine ∈ wl := (wt (mt_8 (List.mem_of_getElem? (i := 1) rfl)) rfl)
theorem wz_X12_shine : Cond.selects RX12 yX12_shine yX12_shine ∈ wl := wp (mp_5 (List.mem_of_getElem? (i := 4) rfl))
theorem wc_X12_goOn : cdw mX12_goOn ∈ wl := (wt (mt_8 (List.mem_of_getElem? (i := 13) rfl)) rfl)
theorem wd_X12_goOn : dOk mX12_goOn 5 := ⟨(by decide +kernel), (by decide +kernel), (by decide +kernel)⟩
theorem wv_X12_goOn : Cond.instanceMethod yX12_goOn ∈ wl := (wt (mt_8 (List.mem_of_getElem? (i := 12) rfl)) rfl)
theorem wz_X12_goOn : Cond.selects RX12 yX12_goOn yX12_goOn ∈ wl := wp (mp_5 (List.mem_of_getElem? (i := 6) rfl))
theorem wc_X12_arrive : cdw mX12_arrive ∈ wl := (wt (mt_8 (List.mem_of_getElem? (i := 17) rfl)) rfl)
theorem wd_X12_arrive : dOk mX12_arrive 4 := ⟨(by decide +kernel), (by decide +kernel), (by decide +kernel)⟩
theorem wv_X12_arrive : Cond.instanceMethod yX12_arrive ∈ wl := (wt (mt_8 (List.mem_of_getElem? (i := 16) rfl)) rfl)
theorem wz_X12_arrive : Cond.selects RX12 yX12_arrive yX12_arrive ∈ wl := wp (mp_5 (List.mem_of_getElem? (i := 7) rfl))
theorem wc_X12_isBetter : cdw mX12_isBetter ∈ wl := (wt (mt_8 (List.mem_of_getElem? (i := 29) rfl)) rfl)
theorem wd_X12_isBetter : dOk mX12_isBetter 2 := ⟨(by decide +kernel), (by decide +kernel), (by decide +kernel)⟩
theorem wv_X12_isBetter : Cond.instanceMethod yX12_isBetter ∈ wl := (wt (mt_8 (List.mem_of_getElem? (i := 28) rfl)) rfl)
theorem wz_X12_isBetter : Cond.selects RX12 yX12_isBetter yX12_isBetter ∈ wl := wp (mp_5 (List.mem_of_getElem? (i := 9) rfl))
theorem wc_X12_isBright : cdw mX12_isBright ∈ wl := (wt (mt_8 (List.mem_of_getElem? (i := 33) rfl)) rfl)
theorem wd_X12_isBright : dOk mX12_isBright 1 := ⟨(by decide +kernel), (by decide +kernel), (by decide +kernel)⟩
theorem wv_X12_isBright : Cond.instanceMethod yX12_isBright ∈ wl := (wt (mt_8 (List.mem_of_getElem? (i := 32) rfl)) rfl)
theorem wz_X12_isBright : Cond.selects RX12 yX12_isBright yX12_isBright ∈ wl := wp (mp_5 (List.mem_of_getElem? (i := 10) rfl))
theorem wc_X12_glowing : cdw mX12_glowing ∈ wl := (wt (mt_7 (List.mem_of_getElem? (i := 238) rfl)) rfl)
theorem wd_X12_glowing : dOk mX12_glowing 2 := ⟨(by decide +kernel), (by decide +kernel), (by decide +kernel)⟩
theorem wv_X12_glowing : Cond.instanceMethod yX12_glowing ∈ wl := (wt (mt_7 (List.mem_of_getElem? (i := 237) rfl)) rfl)
theorem wz_X12_glowing : Cond.selects RX12 yX12_glowing yX12_glowing ∈ wl := wp (mp_5 (List.mem_of_getElem? (i := 3) rfl))
theorem wc_X12_askedFor : cdw mX12_askedFor ∈ wl := (wt (mt_8 (List.mem_of_getElem? (i := 47) rfl)) rfl)
theorem wd_X12_askedFor : dOk mX12_askedFor 2 := ⟨(by decide +kernel), (by decide +kernel), (by decide +kernel)⟩
theorem wv_X12_askedFor : Cond.instanceMethod yX12_askedFor ∈ wl := (wt (mt_8 (List.mem_of_getElem? (i := 46) rfl)) rfl)
theorem wz_X12_askedFor : Cond.selects RX12 yX12_askedFor yX12_askedFor ∈ wl := wp (mp_5 (List.mem_of_getElem? (i := 11) rfl))
theorem wc_X12_glowingWith : cdw mX12_glowingWith ∈ wl := (wt (mt_7 (List.mem_of_getElem? (i := 214) rfl)) rfl)
theorem wd_X12_glowingWith : dOk mX12_glowingWith 3 := ⟨(by decide +kernel), (by decide +kernel), (by decide +kernel)⟩
theorem wv_X12_glowingWith : Cond.instanceMethod yX12_glowingWith ∈ wl := (wt (mt_7 (List.mem_of_getElem? (i := 213) rfl)) rfl)
theorem wz_X12_glowingWith : Cond.selects RX12 yX12_glowingWith yX12_glowingWith ∈ wl := wp (mp_4 (List.mem_of_getElem? (i := 13) rfl))
theorem wc_X12_put : cdw mX12_put ∈ wl := (wt (mt_7 (List.mem_of_getElem? (i := 206) rfl)) rfl)
theorem wd_X12_put : dOk mX12_put 2 := ⟨(by decide +kernel), (by decide +kernel), (by decide +kernel)⟩
theorem wv_X12_put : Cond.instanceMethod yX12_put ∈ wl := (wt (mt_7 (List.mem_of_getElem? (i := 204) rfl)) rfl)
theorem wz_X12_put : Cond.selects RX12 yX12_put yX12_put ∈ wl := (wt (mt_7 (List.mem_of_getElem? (i := 205) rfl)) rfl)
theorem wc_X12_glows : cdw mX12_glows ∈ wl := (wt (mt_8 (List.mem_of_getElem? (i := 39) rfl)) rfl)
theorem wd_X12_glows : dOk mX12_glows 0 := ⟨(by decide +kernel), (by decide +kernel), (by decide +kernel)⟩
theorem wv_X12_glows : Cond.instanceMethod yX12_glows ∈ wl := (wt (mt_8 (List.mem_of_getElem? (i := 37) rfl)) rfl)
theorem wz_X12_glows : Cond.selects RX12 yX12_glows yX12_glows ∈ wl := (wt (mt_8 (List.mem_of_getElem? (i := 38) rfl)) rfl)
theorem wc_X12_ghosts : cdw mX12_ghosts ∈ wl := (wt (mt_8 (List.mem_of_getElem? (i := 43) rfl)) rfl)
theorem wd_X12_ghosts : dOk mX12_ghosts 0 := ⟨(by decide +kernel), (by decide +kernel), (by decide +kernel)⟩
theorem wv_X12_ghosts : Cond.instanceMethod yX12_ghosts ∈ wl := (wt (mt_8 (List.mem_of_getElem? (i := 41) rfl)) rfl)
theorem wz_X12_ghosts : Cond.selects RX12 yX12_ghosts yX12_ghosts ∈ wl := (wt (mt_8 (List.mem_of_getElem? (i := 42) rfl)) rfl)
theorem wc_X12_countAll : cdw mX12_countAll ∈ wl := (wt (mt_8 (List.mem_of_getElem? (i := 56) rfl)) rfl)
theorem wd_X12_countAll : dOk mX12_countAll 1 := ⟨(by decide +kernel), (by decide +kernel), (by decide +kernel)⟩
theorem wv_X12_countAll : Cond.instanceMethod yX12_countAll ∈ wl := (wt (mt_8 (List.mem_of_getElem? (i := 55) rfl)) rfl)
theorem wz_X12_countAll : Cond.selects RX12 yX12_countAll yX12_countAll ∈ wl := wp (mp_5 (List.mem_of_getElem? (i := 12) rfl))
theorem wc_X12_light : cdw mX12_light ∈ wl := (wt (mt_8 (List.mem_of_getElem? (i := 52) rfl)) rfl)
theorem wd_X12_light : dOk mX12_light 1 := ⟨(by decide +kernel), (by decide +kernel), (by decide +kernel)⟩
theorem wv_X12_light : Cond.instanceMethod yX12_light ∈ wl := (wt (mt_8 (List.mem_of_getElem? (i := 50) rfl)) rfl)
theorem wz_X12_light : Cond.selects RX12 yX12_light yX12_light ∈ wl := (wt (mt_8 (List.mem_of_getElem? (i := 51) rfl)) rfl)
theorem wc_X12_why : cdw mX12_why ∈ wl := (wt (mt_8 (List.mem_of_getElem? (i := 64) rfl)) rfl)
theorem wd_X12_why : dOk mX12_why 1 := ⟨(by decide +kernel), (by decide +kernel), (by decide +kernel)⟩
theorem wv_X12_why : Cond.instanceMethod yX12_why ∈ wl := (wt (mt_8 (List.mem_of_getElem? (i := 62) rfl)) rfl)
theorem wz_X12_why : Cond.selects RX12 yX12_why yX12_why ∈ wl := (wt (mt_8 (List.mem_of_getElem? (i := 63) rfl)) rfl)
theorem wc_X12_draws : cdw mX12_draws ∈ wl := (wt (mt_8 (List.mem_of_getElem? (i := 69) rfl)) rfl)
theorem wd_X12_draws : dOk mX12_draws 1 := ⟨(by decide +kernel), (by decide +kernel), (by decide +kernel)⟩
theorem wv_X12_draws : Cond.instanceMethod yX12_draws ∈ wl := (wt (mt_8 (List.mem_of_getElem? (i := 67) rfl)) rfl)
theorem wz_X12_draws : Cond.selects RX12 yX12_draws yX12_draws ∈ wl := (wt (mt_8 (List.mem_of_getElem? (i := 68) rfl)) rfl)
theorem wc_X12_brightest : cdw mX12_brightest ∈ wl := (wt (mt_8 (List.mem_of_getElem? (i := 73) rfl)) rfl)
theorem wd_X12_brightest : dOk mX12_brightest 0 := ⟨(by decide +kernel), (by decide +kernel), (by decide +kernel)⟩
theorem wv_X12_brightest : Cond.instanceMethod yX12_brightest ∈ wl := (wt (mt_8 (List.mem_of_getElem? (i := 71) rfl)) rfl)
theorem wz_X12_brightest : Cond.selects RX12 yX12_brightest yX12_brightest ∈ wl := (wt (mt_8 (List.mem_of_getElem? (i := 72) rfl)) rfl)
theorem wc_X12_settings : cdw mX12_settings ∈ wl := (wt (mt_8 (List.mem_of_getElem? (i := 97) rfl)) rfl)
theorem wd_X12_settings : dOk mX12_settings 0 := ⟨(by decide +kernel), (by decide +kernel), (by decide +kernel)⟩
theorem wv_X12_settings : Cond.instanceMethod yX12_settings ∈ wl := (wt (mt_8 (List.mem_of_getElem? (i := 96) rfl)) rfl)
theorem wz_X12_settings : Cond.selects RX12 yX12_settings yX12_settings ∈ wl := wp (mp_6 (List.mem_of_getElem? (i := 2) rfl))
theorem wc_X12_highOf : cdw mX12_highOf ∈ wl := (wt (mt_8 (List.mem_of_getElem? (i := 101) rfl)) rfl)
theorem wd_X12_highOf : dOk mX12_highOf 1 := ⟨(by decide +kernel), (by decide +kernel), (by decide +kernel)⟩
theorem wv_X12_highOf : Cond.instanceMethod yX12_highOf ∈ wl := (wt (mt_8 (List.mem_of_getElem? (i := 100) rfl)) rfl)
theorem wz_X12_highOf : Cond.selects RX12 yX12_highOf yX12_highOf ∈ wl := wp (mp_6 (List.mem_of_getElem? (i := 3) rfl))
theorem wc_X12_lowOf : cdw mX12_lowOf ∈ wl := (wt (mt_8 (List.mem_of_getElem? (i := 109) rfl)) rfl)
theorem wd_X12_lowOf : dOk mX12_lowOf 1 := ⟨(by decide +kernel), (by decide +kernel), (by decide +kernel)⟩
theorem wv_X12_lowOf : Cond.instanceMethod yX12_lowOf ∈ wl := (wt (mt_8 (List.mem_of_getElem? (i := 108) rfl)) rfl)
theorem wz_X12_lowOf : Cond.selects RX12 yX12_lowOf yX12_lowOf ∈ wl := wp (mp_6 (List.mem_of_getElem? (i := 5) rfl))
theorem wc_X12_wiresAt : cdw mX12_wiresAt ∈ wl := (wt (mt_8 (List.mem_of_getElem? (i := 105) rfl)) rfl)
theorem wd_X12_wiresAt : dOk mX12_wiresAt 2 := ⟨(by decide +kernel), (by decide +kernel), (by decide +kernel)⟩
theorem wv_X12_wiresAt : Cond.instanceMethod yX12_wiresAt ∈ wl := (wt (mt_8 (List.mem_of_getElem? (i := 104) rfl)) rfl)
theorem wz_X12_wiresAt : Cond.selects RX12 yX12_wiresAt yX12_wiresAt ∈ wl := wp (mp_6 (List.mem_of_getElem? (i := 4) rfl))
theorem wc_X12_canSearch : cdw mX12_canSearch ∈ wl := (wt (mt_8 (List.mem_of_getElem? (i := 85) rfl)) rfl)
theorem wd_X12_canSearch : dOk mX12_canSearch 0 := ⟨(by decide +kernel), (by decide +kernel), (by decide +kernel)⟩
theorem wv_X12_canSearch : Cond.instanceMethod yX12_canSearch ∈ wl := (wt (mt_8 (List.mem_of_getElem? (i := 84) rfl)) rfl)
theorem wz_X12_canSearch : Cond.selects RX12 yX12_canSearch yX12_canSearch ∈ wl := wp (mp_5 (List.mem_of_getElem? (i := 15) rfl))
theorem wc_X12_findGlow : cdw mX12_findGlow ∈ wl := (wt (mt_8 (List.mem_of_getElem? (i := 93) rfl)) rfl)
theorem wd_X12_findGlow : dOk mX12_findGlow 2 := ⟨(by decide +kernel), (by decide +kernel), (by decide +kernel)⟩
theorem wv_X12_findGlow : Cond.instanceMethod yX12_findGlow ∈ wl := (wt (mt_8 (List.mem_of_getElem? (i := 92) rfl)) rfl)
theorem wz_X12_findGlow : Cond.selects RX12 yX12_findGlow yX12_findGlow ∈ wl := wp (mp_6 (List.mem_of_getElem? (i := 1) rfl))
theorem wc_X12_findAll : cdw mX12_findAll ∈ wl := (wt (mt_8 (List.mem_of_getElem? (i := 89) rfl)) rfl)
theorem wd_X12_findAll : dOk mX12_findAll 0 := ⟨(by decide +kernel), (by decide +kernel), (by decide +kernel)⟩
theorem wv_X12_findAll : Cond.instanceMethod yX12_findAll ∈ wl := (wt (mt_8 (List.mem_of_getElem? (i := 88) rfl)) rfl)
theorem wz_X12_findAll : Cond.selects RX12 yX12_findAll yX12_findAll ∈ wl := wp (mp_6 (List.mem_of_getElem? (i := 0) rfl))
theorem wc_X12_shows : cdw mX12_shows ∈ wl := (wt (mt_8 (List.mem_of_getElem? (i := 77) rfl)) rfl)
theorem wd_X12_shows : dOk mX12_shows 1 := ⟨(by decide +kernel), (by decide +kernel), (by decide +kernel)⟩
theorem wv_X12_shows : Cond.instanceMethod yX12_shows ∈ wl := (wt (mt_8 (List.mem_of_getElem? (i := 75) rfl)) rfl)
theorem wz_X12_shows : Cond.selects RX12 yX12_shows yX12_shows ∈ wl := (wt (mt_8 (List.mem_of_getElem? (i := 76) rfl)) rfl)
theorem wc_X12_bars : cdw mX12_bars ∈ wl := (wt (mt_8 (List.mem_of_getElem? (i := 113) rfl)) rfl)
theorem wd_X12_bars : dOk mX12_bars 1 := ⟨(by decide +kernel), (by decide +kernel), (by decide +kernel)⟩
theorem wv_X12_bars : Cond.instanceMethod yX12_bars ∈ wl := (wt (mt_8 (List.mem_of_getElem? (i := 111) rfl)) rfl)
theorem wz_X12_bars : Cond.selects RX12 yX12_bars yX12_bars ∈ wl := (wt (mt_8 (List.mem_of_getElem? (i := 112) rfl)) rfl)
theorem wc_X12_most : cdw mX12_most ∈ wl := (wt (mt_8 (List.mem_of_getElem? (i := 118) rfl)) rfl)
theorem wd_X12_most : dOk mX12_most 0 := ⟨(by decide +kernel), (by decide +kernel), (by decide +kernel)⟩
theorem wv_X12_most : Cond.instanceMethod yX12_most ∈ wl := (wt (mt_8 (List.mem_of_getElem? (i := 116) rfl)) rfl)
theorem wz_X12_most : Cond.selects RX12 yX12_most yX12_most ∈ wl := (wt (mt_8 (List.mem_of_getElem? (i := 117) rfl)) rfl)
theorem wc_X12_sets : cdw mX12_sets ∈ wl := (wt (mt_8 (List.mem_of_getElem? (i := 122) rfl)) rfl)
theorem wd_X12_sets : dOk mX12_sets 0 := ⟨(by decide +kernel), (by decide +kernel), (by decide +kernel)⟩
theorem wv_X12_sets : Cond.instanceMethod yX12_sets ∈ wl := (wt (mt_8 (List.mem_of_getElem? (i := 120) rfl)) rfl)
theorem wz_X12_sets : Cond.selects RX12 yX12_sets yX12_sets ∈ wl := (wt (mt_8 (List.mem_of_getElem? (i := 121) rfl)) rfl)
theorem wc_X12_fits : cdw mX12_fits ∈ wl := (wt (mt_8 (List.mem_of_getElem? (i := 126) rfl)) rfl)
theorem wd_X12_fits : dOk mX12_fits 2 := ⟨(by decide +kernel), (by decide +kernel), (by decide +kernel)⟩
theorem wv_X12_fits : Cond.instanceMethod yX12_fits ∈ wl := (wt (mt_8 (List.mem_of_getElem? (i := 124) rfl)) rfl)
theorem wz_X12_fits : Cond.selects RX12 yX12_fits yX12_fits ∈ wl := (wt (mt_8 (List.mem_of_getElem? (i := 125) rfl)) rfl)
theorem wc_X12_alone : cdw mX12_alone ∈ wl := (wt (mt_8 (List.mem_of_getElem? (i := 130) rfl)) rfl)
theorem wd_X12_alone : dOk mX12_alone 0 := ⟨(by decide +kernel), (by decide +kernel), (by decide +kernel)⟩
theorem wv_X12_alone : Cond.instanceMethod yX12_alone ∈ wl := (wt (mt_8 (List.mem_of_getElem? (i := 128) rfl)) rfl)
theorem wz_X12_alone : Cond.selects RX12 yX12_alone yX12_alone ∈ wl := (wt (mt_8 (List.mem_of_getElem? (i := 129) rfl)) rfl)
theorem wc_X12_twins : cdw mX12_twins ∈ wl := (wt (mt_8 (List.mem_of_getElem? (i := 135) rfl)) rfl)
theorem wd_X12_twins : dOk mX12_twins 0 := ⟨(by decide +kernel), (by decide +kernel), (by decide +kernel)⟩
theorem wv_X12_twins : Cond.instanceMethod yX12_twins ∈ wl := (wt (mt_8 (List.mem_of_getElem? (i := 133) rfl)) rfl)
theorem wz_X12_twins : Cond.selects RX12 yX12_twins yX12_twins ∈ wl := (wt (mt_8 (List.mem_of_getElem? (i := 134) rfl)) rfl)
theorem wc_X12_range : cdw mX12_range ∈ wl := (wt (mt_8 (List.mem_of_getElem? (i := 139) rfl)) rfl)
theorem wd_X12_range : dOk mX12_range 2 := ⟨(by decide +kernel), (by decide +kernel), (by decide +kernel)⟩
theorem wv_X12_range : Cond.instanceMethod yX12_range ∈ wl := (wt (mt_8 (List.mem_of_getElem? (i := 137) rfl)) rfl)
theorem wz_X12_range : Cond.selects RX12 yX12_range yX12_range ∈ wl := (wt (mt_8 (List.mem_of_getElem? (i := 138) rfl)) rfl)
theorem wc_X12_picture : cdw mX12_picture ∈ wl := (wt (mt_8 (List.mem_of_getElem? (i := 143) rfl)) rfl)
theorem wd_X12_picture : dOk mX12_picture 2 := ⟨(by decide +kernel), (by decide +kernel), (by decide +kernel)⟩
theorem wv_X12_picture : Cond.instanceMethod yX12_picture ∈ wl := (wt (mt_8 (List.mem_of_getElem? (i := 141) rfl)) rfl)
theorem wz_X12_picture : Cond.selects RX12 yX12_picture yX12_picture ∈ wl := (wt (mt_8 (List.mem_of_getElem? (i := 142) rfl)) rfl)
theorem wc_X12_isTurn : cdw mX12_isTurn ∈ wl := (wt (mt_8 (List.mem_of_getElem? (i := 163) rfl)) rfl)
theorem wd_X12_isTurn : dOk mX12_isTurn 2 := ⟨(by decide +kernel), (by decide +kernel), (by decide +kernel)⟩
theorem wv_X12_isTurn : Cond.instanceMethod yX12_isTurn ∈ wl := (wt (mt_8 (List.mem_of_getElem? (i := 162) rfl)) rfl)
theorem wz_X12_isTurn : Cond.selects RX12 yX12_isTurn yX12_isTurn ∈ wl := wp (mp_6 (List.mem_of_getElem? (i := 9) rfl))
theorem wc_X12_refusal : cdw mX12_refusal ∈ wl := (wt (mt_8 (List.mem_of_getElem? (i := 151) rfl)) rfl)
theorem wd_X12_refusal : dOk mX12_refusal 1 := ⟨(by decide +kernel), (by decide +kernel), (by decide +kernel)⟩
theorem wv_X12_refusal : Cond.instanceMethod yX12_refusal ∈ wl := (wt (mt_8 (List.mem_of_getElem? (i := 150) rfl)) rfl)
theorem wz_X12_refusal : Cond.selects RX12 yX12_refusal yX12_refusal ∈ wl := wp (mp_6 (List.mem_of_getElem? (i := 6) rfl))
theorem wc_X12_findTurns : cdw mX12_findTurns ∈ wl := (wt (mt_8 (List.mem_of_getElem? (i := 159) rfl)) rfl)
theorem wd_X12_findTurns : dOk mX12_findTurns 1 := ⟨(by decide +kernel), (by decide +kernel), (by decide +kernel)⟩
theorem wv_X12_findTurns : Cond.instanceMethod yX12_findTurns ∈ wl := (wt (mt_8 (List.mem_of_getElem? (i := 158) rfl)) rfl)
theorem wz_X12_findTurns : Cond.selects RX12 yX12_findTurns yX12_findTurns ∈ wl := wp (mp_6 (List.mem_of_getElem? (i := 8) rfl))
theorem wc_X12_findParted : cdw mX12_findParted ∈ wl := (wt (mt_8 (List.mem_of_getElem? (i := 155) rfl)) rfl)
theorem wd_X12_findParted : dOk mX12_findParted 1 := ⟨(by decide +kernel), (by decide +kernel), (by decide +kernel)⟩
theorem wv_X12_findParted : Cond.instanceMethod yX12_findParted ∈ wl := (wt (mt_8 (List.mem_of_getElem? (i := 154) rfl)) rfl)
theorem wz_X12_findParted : Cond.selects RX12 yX12_findParted yX12_findParted ∈ wl := wp (mp_6 (List.mem_of_getElem? (i := 7) rfl))
theorem wc_X12_tellTurns : cdw mX12_tellTurns ∈ wl := (wt (mt_8 (List.mem_of_getElem? (i := 169) rfl)) rfl)
theorem wd_X12_tellTurns : dOk mX12_tellTurns 0 := ⟨(by decide +kernel), (by decide +kernel), (by decide +kernel)⟩
theorem wv_X12_tellTurns : Cond.instanceMethod yX12_tellTurns ∈ wl := (wt (mt_8 (List.mem_of_getElem? (i := 168) rfl)) rfl)
theorem wz_X12_tellTurns : Cond.selects RX12 yX12_tellTurns yX12_tellTurns ∈ wl := wp (mp_6 (List.mem_of_getElem? (i := 10) rfl))
theorem wc_X12_parted : cdw mX12_parted ∈ wl := (wt (mt_8 (List.mem_of_getElem? (i := 147) rfl)) rfl)
theorem wd_X12_parted : dOk mX12_parted 1 := ⟨(by decide +kernel), (by decide +kernel), (by decide +kernel)⟩
theorem wv_X12_parted : Cond.instanceMethod yX12_parted ∈ wl := (wt (mt_8 (List.mem_of_getElem? (i := 145) rfl)) rfl)
theorem wz_X12_parted : Cond.selects RX12 yX12_parted yX12_parted ∈ wl := (wt (mt_8 (List.mem_of_getElem? (i := 146) rfl)) rfl)
theorem wc_X12_proof : cdw mX12_proof ∈ wl := (wt (mt_8 (List.mem_of_getElem? (i := 173) rfl)) rfl)
theorem wd_X12_proof : dOk mX12_proof 1 := ⟨(by decide +kernel), (by decide +kernel), (by decide +kernel)⟩
theorem wv_X12_proof : Cond.instanceMethod yX12_proof ∈ wl := (wt (mt_8 (List.mem_of_getElem? (i := 171) rfl)) rfl)
theorem wz_X12_proof : Cond.selects RX12 yX12_proof yX12_proof ∈ wl := (wt (mt_8 (List.mem_of_getElem? (i := 172) rfl)) rfl)
theorem wc_X12_never : cdw mX12_never ∈ wl := (wt (mt_8 (List.mem_of_getElem? (i := 178) rfl)) rfl)
theorem wd_X12_never : dOk mX12_never 1 := ⟨(by decide +kernel), (by decide +kernel), (by decide +kernel)⟩
theorem wv_X12_never : Cond.instanceMethod yX12_never ∈ wl := (wt (mt_8 (List.mem_of_getElem? (i := 176) rfl)) rfl)
theorem wz_X12_never : Cond.selects RX12 yX12_never yX12_never ∈ wl := (wt (mt_8 (List.mem_of_getElem? (i := 177) rfl)) rfl)
theorem wc_X12_changed : cdw mX12_changed ∈ wl := (wt (mt_8 (List.mem_of_getElem? (i := 190) rfl)) rfl)
theorem wd_X12_changed : dOk mX12_changed 2 := ⟨(by decide +kernel), (by decide +kernel), (by decide +kernel)⟩
theorem wv_X12_changed : Cond.instanceMethod yX12_changed ∈ wl := (wt (mt_8 (List.mem_of_getElem? (i := 189) rfl)) rfl)
theorem wz_X12_changed : Cond.selects RX12 yX12_changed yX12_changed ∈ wl := wp (mp_6 (List.mem_of_getElem? (i := 12) rfl))
theorem wc_X12_goOrders : cdw mX12_goOrders ∈ wl := (wt (mt_8 (List.mem_of_getElem? (i := 186) rfl)) rfl)
theorem wd_X12_goOrders : dOk mX12_goOrders 4 := ⟨(by decide +kernel), (by decide +kernel), (by decide +kernel)⟩
theorem wv_X12_goOrders : Cond.instanceMethod yX12_goOrders ∈ wl := (wt (mt_8 (List.mem_of_getElem? (i := 185) rfl)) rfl)
theorem wz_X12_goOrders : Cond.selects RX12 yX12_goOrders yX12_goOrders ∈ wl := wp (mp_6 (List.mem_of_getElem? (i := 11) rfl))
theorem wc_X12_changes : cdw mX12_changes ∈ wl := (wt (mt_8 (List.mem_of_getElem? (i := 182) rfl)) rfl)
theorem wd_X12_changes : dOk mX12_changes 1 := ⟨(by decide +kernel), (by decide +kernel), (by decide +kernel)⟩
theorem wv_X12_changes : Cond.instanceMethod yX12_changes ∈ wl := (wt (mt_8 (List.mem_of_getElem? (i := 180) rfl)) rfl)
theorem wz_X12_changes : Cond.selects RX12 yX12_changes yX12_changes ∈ wl := (wt (mt_8 (List.mem_of_getElem? (i := 181) rfl)) rfl)
theorem wc_X12_sumOf : cdw mX12_sumOf ∈ wl := (wt (mt_8 (List.mem_of_getElem? (i := 203) rfl)) rfl)
theorem wd_X12_sumOf : dOk mX12_sumOf 1 := ⟨(by decide +kernel), (by decide +kernel), (by decide +kernel)⟩
theorem wv_X12_sumOf : Cond.instanceMethod yX12_sumOf ∈ wl := (wt (mt_8 (List.mem_of_getElem? (i := 202) rfl)) rfl)
theorem wz_X12_sumOf : Cond.selects RX12 yX12_sumOf yX12_sumOf ∈ wl := wp (mp_6 (List.mem_of_getElem? (i := 14) rfl))
theorem wc_X12_dimmest : cdw mX12_dimmest ∈ wl := (wt (mt_8 (List.mem_of_getElem? (i := 199) rfl)) rfl)
theorem wd_X12_dimmest : dOk mX12_dimmest 0 := ⟨(by decide +kernel), (by decide +kernel), (by decide +kernel)⟩
theorem wv_X12_dimmest : Cond.instanceMethod yX12_dimmest ∈ wl := (wt (mt_8 (List.mem_of_getElem? (i := 198) rfl)) rfl)
theorem wz_X12_dimmest : Cond.selects RX12 yX12_dimmest yX12_dimmest ∈ wl := wp (mp_6 (List.mem_of_getElem? (i := 13) rfl))
theorem wc_X12_even : cdw mX12_even ∈ wl := (wt (mt_8 (List.mem_of_getElem? (i := 194) rfl)) rfl)
theorem wd_X12_even : dOk mX12_even 2 := ⟨(by decide +kernel), (by decide +kernel), (by decide +kernel)⟩
theorem wv_X12_even : Cond.instanceMethod yX12_even ∈ wl := (wt (mt_8 (List.mem_of_getElem? (i := 192) rfl)) rfl)
theorem wz_X12_even : Cond.selects RX12 yX12_even yX12_even ∈ wl := (wt (mt_8 (List.mem_of_getElem? (i := 193) rfl)) rfl)
theorem wc_X12_better : cdw mX12_better ∈ wl := (wt (mt_8 (List.mem_of_getElem? (i := 207) rfl)) rfl)
theorem wd_X12_better : dOk mX12_better 1 := ⟨(by decide +kernel), (by decide +kernel), (by decide +kernel)⟩
theorem wv_X12_better : Cond.instanceMethod yX12_better ∈ wl := (wt (mt_8 (List.mem_of_getElem? (i := 205) rfl)) rfl)
theorem wz_X12_better : Cond.selects RX12 yX12_better yX12_better ∈ wl := (wt (mt_8 (List.mem_of_getElem? (i := 206) rfl)) rfl)
theorem wc_X12_faults : cdw mX12_faults ∈ wl := (wt (mt_8 (List.mem_of_getElem? (i := 211) rfl)) rfl)
theorem wd_X12_faults : dOk mX12_faults 0 := ⟨(by decide +kernel), (by decide +kernel), (by decide +kernel)⟩
theorem wv_X12_faults : Cond.instanceMethod yX12_faults ∈ wl := (wt (mt_8 (List.mem_of_getElem? (i := 209) rfl)) rfl)
theorem wz_X12_faults : Cond.selects RX12 yX12_faults yX12_faults ∈ wl := (wt (mt_8 (List.mem_of_getElem? (i := 210) rfl)) rfl)
theorem wc_X12_fault_ : cdw mX12_fault_ ∈ wl := (wt (mt_8 (List.mem_of_getElem? (i := 219) rfl)) rfl)
theorem wd_X12_fault_ : dOk mX12_fault_ 2 := ⟨(by decide +kernel), (by decide +kernel), (by decide +kernel)⟩
theorem wv_X12_fault_ : Cond.instanceMethod yX12_fault_ ∈ wl := (wt (mt_8 (List.mem_of_getElem? (i := 217) rfl)) rfl)
theorem wz_X12_fault_ : Cond.selects RX12 yX12_fault_ yX12_fault_ ∈ wl := (wt (mt_8 (List.mem_of_getElem? (i := 218) rfl)) rfl)
theorem wc_X12_would : cdw mX12_would ∈ wl := (wt (mt_8 (List.mem_of_getElem? (i := 227) rfl)) rfl)
theorem wd_X12_would : dOk mX12_would 3 := ⟨(by decide +kernel), (by decide +kernel), (by decide +kernel)⟩
theorem wv_X12_would : Cond.instanceMethod yX12_would ∈ wl := (wt (mt_8 (List.mem_of_getElem? (i := 225) rfl)) rfl)
theorem wz_X12_would : Cond.selects RX12 yX12_would yX12_would ∈ wl := (wt (mt_8 (List.mem_of_getElem? (i := 226) rfl)) rfl)
theorem wc_X12_tells : cdw mX12_tells ∈ wl := (wt (mt_8 (List.mem_of_getElem? (i := 231) rfl)) rfl)
theorem wd_X12_tells : dOk mX12_tells 1 := ⟨(by decide +kernel), (by decide +kernel), (by decide +kernel)⟩
theorem wv_X12_tells : Cond.instanceMethod yX12_tells ∈ wl := (wt (mt_8 (List.mem_of_getElem? (i := 229) rfl)) rfl)
theorem wz_X12_tells : Cond.selects RX12 yX12_tells yX12_tells ∈ wl := (wt (mt_8 (List.mem_of_getElem? (i := 230) rfl)) rfl)
theorem wc_X12_firstUnlike : cdw mX12_firstUnlike ∈ wl := (wt (mt_8 (List.mem_of_getElem? (i := 239) rfl)) rfl)
theorem wd_X12_firstUnlike : dOk mX12_firstUnlike 0 := ⟨(by decide +kernel), (by decide +kernel), (by decide +kernel)⟩
theorem wv_X12_firstUnlike : Cond.instanceMethod yX12_firstUnlike ∈ wl := (wt (mt_8 (List.mem_of_getElem? (i := 238) rfl)) rfl)
theorem wz_X12_firstUnlike : Cond.selects RX12 yX12_firstUnlike yX12_firstUnlike ∈ wl := wp (mp_7 (List.mem_of_getElem? (i := 1) rfl))
theorem wc_X12_hidden : cdw mX12_hidden ∈ wl := (wt (mt_8 (List.mem_of_getElem? (i := 235) rfl)) rfl)
theorem wd_X12_hidden : dOk mX12_hidden 0 := ⟨(by decide +kernel), (by decide +kernel), (by decide +kernel)⟩
theorem wv_X12_hidden : Cond.instanceMethod yX12_hidden ∈ wl := (wt (mt_8 (List.mem_of_getElem? (i := 233) rfl)) rfl)
theorem wz_X12_hidden : Cond.selects RX12 yX12_hidden yX12_hidden ∈ wl := (wt (mt_8 (List.mem_of_getElem? (i := 234) rfl)) rfl)
theorem wc_X12_alike : cdw mX12_alike ∈ wl := (wt (mt_9 (List.mem_of_getElem? (i := 3) rfl)) rfl)
theorem wd_X12_alike : dOk mX12_alike 2 := ⟨(by decide +kernel), (by decide +kernel), (by decide +kernel)⟩
theorem wv_X12_alike : Cond.instanceMethod yX12_alike ∈ wl := (wt (mt_9 (List.mem_of_getElem? (i := 1) rfl)) rfl)
theorem wz_X12_alike : Cond.selects RX12 yX12_alike yX12_alike ∈ wl := (wt (mt_9 (List.mem_of_getElem? (i := 2) rfl)) rfl)
theorem wc_X12_seen : cdw mX12_seen ∈ wl := (wt (mt_9 (List.mem_of_getElem? (i := 7) rfl)) rfl)
theorem wd_X12_seen : dOk mX12_seen 3 := ⟨(by decide +kernel), (by decide +kernel), (by decide +kernel)⟩
theorem wv_X12_seen : Cond.instanceMethod yX12_seen ∈ wl := (wt (mt_9 (List.mem_of_getElem? (i := 5) rfl)) rfl)
theorem wz_X12_seen : Cond.selects RX12 yX12_seen yX12_seen ∈ wl := (wt (mt_9 (List.mem_of_getElem? (i := 6) rfl)) rfl)
theorem wc_X12_forget : cdw mX12_forget ∈ wl := (wt (mt_9 (List.mem_of_getElem? (i := 11) rfl)) rfl)
theorem wd_X12_forget : dOk mX12_forget 0 := ⟨(by decide +kernel), (by decide +kernel), (by decide +kernel)⟩
theorem wv_X12_forget : Cond.instanceMethod yX12_forget ∈ wl := (wt (mt_9 (List.mem_of_getElem? (i := 9) rfl)) rfl)
theorem wz_X12_forget : Cond.selects RX12 yX12_forget yX12_forget ∈ wl := (wt (mt_9 (List.mem_of_getElem? (i := 10) rfl)) rfl)
theorem wc_X12_bar : cdw mX12_bar ∈ wl := (wt (mt_9 (List.mem_of_getElem? (i := 23) rfl)) rfl)
theorem wd_X12_bar : dOk mX12_bar 1 := ⟨(by decide +kernel), (by decide +kernel), (by decide +kernel)⟩
theorem wv_X12_bar : Cond.instanceMethod yX12_bar ∈ wl := (wt (mt_9 (List.mem_of_getElem? (i := 22) rfl)) rfl)
theorem wz_X12_bar : Cond.selects RX12 yX12_bar yX12_bar ∈ wl := wp (mp_7 (List.mem_of_getElem? (i := 3) rfl))
theorem wc_X12_findAgreed : cdw mX12_findAgreed ∈ wl := (wt (mt_9 (List.mem_of_getElem? (i := 19) rfl)) rfl)
theorem wd_X12_findAgreed : dOk mX12_findAgreed 0 := ⟨(by decide +kernel), (by decide +kernel), (by decide +kernel)⟩
theorem wv_X12_findAgreed : Cond.instanceMethod yX12_findAgreed ∈ wl := (wt (mt_9 (List.mem_of_getElem? (i := 18) rfl)) rfl)
theorem wz_X12_findAgreed : Cond.selects RX12 yX12_findAgreed yX12_findAgreed ∈ wl := wp (mp_7 (List.mem_of_getElem? (i := 2) rfl))
theorem wc_X12_which : cdw mX12_which ∈ wl := (wt (mt_9 (List.mem_of_getElem? (i := 15) rfl)) rfl)
theorem wd_X12_which : dOk mX12_which 0 := ⟨(by decide +kernel), (by decide +kernel), (by decide +kernel)⟩
theorem wv_X12_which : Cond.instanceMethod yX12_which ∈ wl := (wt (mt_9 (List.mem_of_getElem? (i := 13) rfl)) rfl)
theorem wz_X12_which : Cond.selects RX12 yX12_which yX12_which ∈ wl := (wt (mt_9 (List.mem_of_getElem? (i := 14) rfl)) rfl)
theorem wc_X12_judge : cdw mX12_judge ∈ wl := (wt (mt_9 (List.mem_of_getElem? (i := 27) rfl)) rfl)
theorem wd_X12_judge : dOk mX12_judge 1 := ⟨(by decide +kernel), (by decide +kernel), (by decide +kernel)⟩
theorem wv_X12_judge : Cond.instanceMethod yX12_judge ∈ wl := (wt (mt_9 (List.mem_of_getElem? (i := 25) rfl)) rfl)
theorem wz_X12_judge : Cond.selects RX12 yX12_judge yX12_judge ∈ wl := (wt (mt_9 (List.mem_of_getElem? (i := 26) rfl)) rfl)
theorem wc_X12_next : cdw mX12_next ∈ wl := (wt (mt_9 (List.mem_of_getElem? (i := 31) rfl)) rfl)
theorem wd_X12_next : dOk mX12_next 0 := ⟨(by decide +kernel), (by decide +kernel), (by decide +kernel)⟩
theorem wv_X12_next : Cond.instanceMethod yX12_next ∈ wl := (wt (mt_9 (List.mem_of_getElem? (i := 29) rfl)) rfl)
theorem wz_X12_next : Cond.selects RX12 yX12_next yX12_next ∈ wl := (wt (mt_9 (List.mem_of_getElem? (i := 30) rfl)) rfl)
theorem wc_X12_test : cdw mX12_test ∈ wl := (wt (mt_9 (List.mem_of_getElem? (i := 35) rfl)) rfl)
theorem wd_X12_test : dOk mX12_test 2 := ⟨(by decide +kernel), (by decide +kernel), (by decide +kernel)⟩
theorem wv_X12_test : Cond.instanceMethod yX12_test ∈ wl := (wt (mt_9 (List.mem_of_getElem? (i := 33) rfl)) rfl)
theorem wz_X12_test : Cond.selects RX12 yX12_test yX12_test ∈ wl := (wt (mt_9 (List.mem_of_getElem? (i := 34) rfl)) rfl)
theorem wc_X12_findAnswers : cdw mX12_findAnswers ∈ wl := (wt (mt_9 (List.mem_of_getElem? (i := 43) rfl)) rfl)
theorem wd_X12_findAnswers : dOk mX12_findAnswers 0 := ⟨(by decide +kernel), (by decide +kernel), (by decide +kernel)⟩
theorem wv_X12_findAnswers : Cond.instanceMethod yX12_findAnswers ∈ wl := (wt (mt_9 (List.mem_of_getElem? (i := 42) rfl)) rfl)
theorem wz_X12_findAnswers : Cond.selects RX12 yX12_findAnswers yX12_findAnswers ∈ wl := wp (mp_7 (List.mem_of_getElem? (i := 4) rfl))
theorem wc_X12_firstOf : cdw mX12_firstOf ∈ wl := (wt (mt_9 (List.mem_of_getElem? (i := 47) rfl)) rfl)
theorem wd_X12_firstOf : dOk mX12_firstOf 2 := ⟨(by decide +kernel), (by decide +kernel), (by decide +kernel)⟩
theorem wv_X12_firstOf : Cond.instanceMethod yX12_firstOf ∈ wl := (wt (mt_9 (List.mem_of_getElem? (i := 46) rfl)) rfl)
theorem wz_X12_firstOf : Cond.selects RX12 yX12_firstOf yX12_firstOf ∈ wl := wp (mp_7 (List.mem_of_getElem? (i := 5) rfl))
theorem wc_X12_areAlike : cdw mX12_areAlike ∈ wl := (wt (mt_9 (List.mem_of_getElem? (i := 59) rfl)) rfl)
theorem wd_X12_areAlike : dOk mX12_areAlike 3 := ⟨(by decide +kernel), (by decide +kernel), (by decide +kernel)⟩
theorem wv_X12_areAlike : Cond.instanceMethod yX12_areAlike ∈ wl := (wt (mt_9 (List.mem_of_getElem? (i := 58) rfl)) rfl)
theorem wz_X12_areAlike : Cond.selects RX12 yX12_areAlike yX12_areAlike ∈ wl := wp (mp_7 (List.mem_of_getElem? (i := 8) rfl))
theorem wc_X12_parts : cdw mX12_parts ∈ wl := (wt (mt_9 (List.mem_of_getElem? (i := 55) rfl)) rfl)
theorem wd_X12_parts : dOk mX12_parts 3 := ⟨(by decide +kernel), (by decide +kernel), (by decide +kernel)⟩
theorem wv_X12_parts : Cond.instanceMethod yX12_parts ∈ wl := (wt (mt_9 (List.mem_of_getElem? (i := 54) rfl)) rfl)
theorem wz_X12_parts : Cond.selects RX12 yX12_parts yX12_parts ∈ wl := wp (mp_7 (List.mem_of_getElem? (i := 7) rfl))
theorem wc_X12_depthOf : cdw mX12_depthOf ∈ wl := (wt (mt_9 (List.mem_of_getElem? (i := 51) rfl)) rfl)
theorem wd_X12_depthOf : dOk mX12_depthOf 2 := ⟨(by decide +kernel), (by decide +kernel), (by decide +kernel)⟩
theorem wv_X12_depthOf : Cond.instanceMethod yX12_depthOf ∈ wl := (wt (mt_9 (List.mem_of_getElem? (i := 50) rfl)) rfl)
theorem wz_X12_depthOf : Cond.selects RX12 yX12_depthOf yX12_depthOf ∈ wl := wp (mp_7 (List.mem_of_getElem? (i := 6) rfl))
theorem wc_X12_depthBy : cdw mX12_depthBy ∈ wl := (wt (mt_9 (List.mem_of_getElem? (i := 63) rfl)) rfl)
theorem wd_X12_depthBy : dOk mX12_depthBy 3 := ⟨(by decide +kernel), (by decide +kernel), (by decide +kernel)⟩
theorem wv_X12_depthBy : Cond.instanceMethod yX12_depthBy ∈ wl := (wt (mt_9 (List.mem_of_getElem? (i := 62) rfl)) rfl)
theorem wz_X12_depthBy : Cond.selects RX12 yX12_depthBy yX12_depthBy ∈ wl := wp (mp_7 (List.mem_of_getElem? (i := 9) rfl))
theorem wc_X12_firstTest : cdw mX12_firstTest ∈ wl := (wt (mt_9 (List.mem_of_getElem? (i := 67) rfl)) rfl)
theorem wd_X12_firstTest : dOk mX12_firstTest 2 := ⟨(by decide +kernel), (by decide +kernel), (by decide +kernel)⟩
theorem wv_X12_firstTest : Cond.instanceMethod yX12_firstTest ∈ wl := (wt (mt_9 (List.mem_of_getElem? (i := 66) rfl)) rfl)
theorem wz_X12_firstTest : Cond.selects RX12 yX12_firstTest yX12_firstTest ∈ wl := wp (mp_7 (List.mem_of_getElem? (i := 10) rfl))
theorem wc_X12_tree : cdw mX12_tree ∈ wl := (wt (mt_9 (List.mem_of_getElem? (i := 39) rfl)) rfl)
theorem wd_X12_tree : dOk mX12_tree 0 := ⟨(by decide +kernel), (by decide +kernel), (by decide +kernel)⟩
theorem wv_X12_tree : Cond.instanceMethod yX12_tree ∈ wl := (wt (mt_9 (List.mem_of_getElem? (i := 37) rfl)) rfl)
theorem wz_X12_tree : Cond.selects RX12 yX12_tree yX12_tree ∈ wl := (wt (mt_9 (List.mem_of_getElem? (i := 38) rfl)) rfl)
theorem wc_X12_path : cdw mX12_path ∈ wl := (wt (mt_9 (List.mem_of_getElem? (i := 71) rfl)) rfl)
theorem wd_X12_path : dOk mX12_path 1 := ⟨(by decide +kernel), (by decide +kernel), (by decide +kernel)⟩
theorem wv_X12_path : Cond.instanceMethod yX12_path ∈ wl := (wt (mt_9 (List.mem_of_getElem? (i := 69) rfl)) rfl)
theorem wz_X12_path : Cond.selects RX12 yX12_path yX12_path ∈ wl := (wt (mt_9 (List.mem_of_getElem? (i := 70) rfl)) rfl)
theorem wc_X12_keep : cdw mX12_keep ∈ wl := (wt (mt_9 (List.mem_of_getElem? (i := 75) rfl)) rfl)
theorem wd_X12_keep : dOk mX12_keep 1 := ⟨(by decide +kernel), (by decide +kernel), (by decide +kernel)⟩
theorem wv_X12_keep : Cond.instanceMethod yX12_keep ∈ wl := (wt (mt_9 (List.mem_of_getElem? (i := 73) rfl)) rfl)
theorem wz_X12_keep : Cond.selects RX12 yX12_keep yX12_keep ∈ wl := (wt (mt_9 (List.mem_of_getElem? (i := 74) rfl)) rfl)
theorem wc_X12_again : cdw mX12_again ∈ wl := (wt (mt_9 (List.mem_of_getElem? (i := 79) rfl)) rfl)
theorem wd_X12_again : dOk mX12_again 1 := ⟨(by decide +kernel), (by decide +kernel), (by decide +kernel)⟩
theorem wv_X12_again : Cond.instanceMethod yX12_again ∈ wl := (wt (mt_9 (List.mem_of_getElem? (i := 77) rfl)) rfl)
theorem wz_X12_again : Cond.selects RX12 yX12_again yX12_again ∈ wl := (wt (mt_9 (List.mem_of_getElem? (i := 78) rfl)) rfl)
theorem wc_X12_count : cdw mX12_count ∈ wl := (wt (mt_9 (List.mem_of_getElem? (i := 83) rfl)) rfl)
theorem wd_X12_count : dOk mX12_count 1 := ⟨(by decide +kernel), (by decide +kernel), (by decide +kernel)⟩
theorem wv_X12_count : Cond.instanceMethod yX12_count ∈ wl := (wt (mt_9 (List.mem_of_getElem? (i := 81) rfl)) rfl)
theorem wz_X12_count : Cond.selects RX12 yX12_count yX12_count ∈ wl := (wt (mt_9 (List.mem_of_getElem? (i := 82) rfl)) rfl)
theorem wc_X12_row : cdw mX12_row ∈ wl := (wt (mt_9 (List.mem_of_getElem? (i := 87) rfl)) rfl)
theorem wd_X12_row : dOk mX12_row 1 := ⟨(by decide +kernel), (by decide +kernel), (by decide +kernel)⟩
theorem wv_X12_row : Cond.instanceMethod yX12_row ∈ wl := (wt (mt_9 (List.mem_of_getElem? (i := 85) rfl)) rfl)
theorem wz_X12_row : Cond.selects RX12 yX12_row yX12_row ∈ wl := (wt (mt_9 (List.mem_of_getElem? (i := 86) rfl)) rfl)
theorem wc_J6_numberOfTrailingZeros_0f7a4 : cdw mJ6_numberOfTrailingZeros_0f7a4 ∈ wl := (wt (mt_4 (List.mem_of_getElem? (i := 3) rfl)) rfl)
theorem wd_J6_numberOfTrailingZeros_0f7a4 : dOk mJ6_numberOfTrailingZeros_0f7a4 1 := ⟨(by decide +kernel), (by decide +kernel), (by decide +kernel)⟩
theorem ws_J6_numberOfTrailingZeros_0f7a4 : Cond.static yJ6_numberOfTrailingZeros_0f7a4 ∈ wl := (wt (mt_4 (List.mem_of_getElem? (i := 2) rfl)) rfl)
theorem wc_J6_bitCount_0f7a4 : cdw mJ6_bitCount_0f7a4 ∈ wl := (wt (mt_4 (List.mem_of_getElem? (i := 228) rfl)) rfl)
theorem wd_J6_bitCount_0f7a4 : dOk mJ6_bitCount_0f7a4 1 := ⟨(by decide +kernel), (by decide +kernel), (by decide +kernel)⟩
theorem ws_J6_bitCount_0f7a4 : Cond.static yJ6_bitCount_0f7a4 ∈ wl := (wt (mt_4 (List.mem_of_getElem? (i := 227) rfl)) rfl)
theorem wc_J13_numberOfTrailingZeros_95d88 : cdw mJ13_numberOfTrailingZeros_95d88 ∈ wl := (wt (mt_4 (List.mem_of_getElem? (i := 0) rfl)) rfl)
theorem wd_J13_numberOfTrailingZeros_95d88 : dOk mJ13_numberOfTrailingZeros_95d88 1 := ⟨(by decide +kernel), (by decide +kernel), (by decide +kernel)⟩
theorem ws_J13_numberOfTrailingZeros_95d88 : Cond.static yJ13_numberOfTrailingZeros_95d88 ∈ wl := (wt (mt_3 (List.mem_of_getElem? (i := 239) rfl)) rfl)
theorem wc_J13_bitCount_95d88 : cdw mJ13_bitCount_95d88 ∈ wl := (wt (mt_3 (List.mem_of_getElem? (i := 234) rfl)) rfl)
theorem wd_J13_bitCount_95d88 : dOk mJ13_bitCount_95d88 1 := ⟨(by decide +kernel), (by decide +kernel), (by decide +kernel)⟩
theorem ws_J13_bitCount_95d88 : Cond.static yJ13_bitCount_95d88 ∈ wl := (wt (mt_3 (List.mem_of_getElem? (i := 233) rfl)) rfl)
theorem wc_J9_max_7cf53 : cdw mJ9_max_7cf53 ∈ wl := (wt (mt_3 (List.mem_of_getElem? (i := 188) rfl)) rfl)
theorem wd_J9_max_7cf53 : dOk mJ9_max_7cf53 2 := ⟨(by decide +kernel), (by decide +kernel), (by decide +kernel)⟩
theorem ws_J9_max_7cf53 : Cond.static yJ9_max_7cf53 ∈ wl := (wt (mt_3 (List.mem_of_getElem? (i := 187) rfl)) rfl)
theorem wc_J9_max_f86c9 : cdw mJ9_max_f86c9 ∈ wl := (wt (mt_8 (List.mem_of_getElem? (i := 25) rfl)) rfl)
theorem wd_J9_max_f86c9 : dOk mJ9_max_f86c9 2 := ⟨(by decide +kernel), (by decide +kernel), (by decide +kernel)⟩
theorem ws_J9_max_f86c9 : Cond.static yJ9_max_f86c9 ∈ wl := (wt (mt_8 (List.mem_of_getElem? (i := 24) rfl)) rfl)
theorem wc_J9_min_7cf53 : cdw mJ9_min_7cf53 ∈ wl := (wt (mt_3 (List.mem_of_getElem? (i := 88) rfl)) rfl)
theorem wd_J9_min_7cf53 : dOk mJ9_min_7cf53 2 := ⟨(by decide +kernel), (by decide +kernel), (by decide +kernel)⟩
theorem ws_J9_min_7cf53 : Cond.static yJ9_min_7cf53 ∈ wl := (wt (mt_3 (List.mem_of_getElem? (i := 87) rfl)) rfl)
theorem wc_J7_rangeCheck_23922 : cdw mJ7_rangeCheck_23922 ∈ wl := (wt (mt_4 (List.mem_of_getElem? (i := 199) rfl)) rfl)
theorem wd_J7_rangeCheck_23922 : dOk mJ7_rangeCheck_23922 3 := ⟨(by decide +kernel), (by decide +kernel), (by decide +kernel)⟩
theorem ws_J7_rangeCheck_23922 : Cond.static yJ7_rangeCheck_23922 ∈ wl := (wt (mt_4 (List.mem_of_getElem? (i := 198) rfl)) rfl)
theorem wc_J7_fill_d0a16 : cdw mJ7_fill_d0a16 ∈ wl := (wt (mt_3 (List.mem_of_getElem? (i := 151) rfl)) rfl)
theorem wd_J7_fill_d0a16 : dOk mJ7_fill_d0a16 2 := ⟨(by decide +kernel), (by decide +kernel), (by decide +kernel)⟩
theorem ws_J7_fill_d0a16 : Cond.static yJ7_fill_d0a16 ∈ wl := (wt (mt_3 (List.mem_of_getElem? (i := 150) rfl)) rfl)
theorem wc_J7_fill_53178 : cdw mJ7_fill_53178 ∈ wl := (wt (mt_4 (List.mem_of_getElem? (i := 120) rfl)) rfl)
theorem wd_J7_fill_53178 : dOk mJ7_fill_53178 2 := ⟨(by decide +kernel), (by decide +kernel), (by decide +kernel)⟩
theorem ws_J7_fill_53178 : Cond.static yJ7_fill_53178 ∈ wl := (wt (mt_4 (List.mem_of_getElem? (i := 119) rfl)) rfl)
theorem wc_J7_fill_fda19 : cdw mJ7_fill_fda19 ∈ wl := (wt (mt_4 (List.mem_of_getElem? (i := 196) rfl)) rfl)
theorem wd_J7_fill_fda19 : dOk mJ7_fill_fda19 4 := ⟨(by decide +kernel), (by decide +kernel), (by decide +kernel)⟩
theorem ws_J7_fill_fda19 : Cond.static yJ7_fill_fda19 ∈ wl := (wt (mt_4 (List.mem_of_getElem? (i := 195) rfl)) rfl)
theorem lo_X2_29 : Cond.classLink RX2 29 RX3 ∈ wl := (wt (mt_3 (List.mem_of_getElem? (i := 10) rfl)) rfl)
theorem lo_X11_16 : Cond.classLink RX11 16 RX9 ∈ wl := (wt (mt_1 (List.mem_of_getElem? (i := 101) rfl)) rfl)
theorem lo_X11_23 : Cond.classLink RX11 23 RX6 ∈ wl := (wt (mt_1 (List.mem_of_getElem? (i := 118) rfl)) rfl)
theorem lo_X11_32 : Cond.classLink RX11 32 RX10 ∈ wl := (wt (mt_1 (List.mem_of_getElem? (i := 163) rfl)) rfl)
theorem lo_X11_39 : Cond.classLink RX11 39 RX1 ∈ wl := (wt (mt_1 (List.mem_of_getElem? (i := 178) rfl)) rfl)
theorem lo_X11_48 : Cond.classLink RX11 48 RX3 ∈ wl := (wt (mt_2 (List.mem_of_getElem? (i := 12) rfl)) rfl)
theorem lo_X11_55 : Cond.classLink RX11 55 RX8 ∈ wl := (wt (mt_2 (List.mem_of_getElem? (i := 48) rfl)) rfl)
theorem lo_X11_64 : Cond.classLink RX11 64 RX4 ∈ wl := (wt (mt_2 (List.mem_of_getElem? (i := 99) rfl)) rfl)
theorem lo_X11_7 : Cond.classLink RX11 7 RX0 ∈ wl := (wt (mt_1 (List.mem_of_getElem? (i := 32) rfl)) rfl)
theorem lo_X11_73 : Cond.classLink RX11 73 RX7 ∈ wl := (wt (mt_2 (List.mem_of_getElem? (i := 160) rfl)) rfl)
theorem lo_X11_82 : Cond.classLink RX11 82 RX5 ∈ wl := (wt (mt_2 (List.mem_of_getElem? (i := 198) rfl)) rfl)
theorem lo_X11_91 : Cond.classLink RX11 91 RX2 ∈ wl := (wt (mt_3 (List.mem_of_getElem? (i := 3) rfl)) rfl)
theorem lo_L_23 : Cond.classLink RL 23 RX12 ∈ wl := (wt (mt_6 (List.mem_of_getElem? (i := 122) rfl)) rfl)
theorem lo_L_8 : Cond.classLink RL 8 RX11 ∈ wl := (wt (mt_1 (List.mem_of_getElem? (i := 24) rfl)) rfl)
theorem fo_X0_15 : FOk RX0 15 0 1 := ⟨_, rfl, by decide, (wt (mt_1 (List.mem_of_getElem? (i := 43) rfl)) rfl), rfl⟩
theorem fo_X0_18 : FOk RX0 18 0 2 := ⟨_, rfl, by decide, (wt (mt_1 (List.mem_of_getElem? (i := 48) rfl)) rfl), rfl⟩
theorem fo_X0_21 : FOk RX0 21 0 3 := ⟨_, rfl, by decide, (wt (mt_1 (List.mem_of_getElem? (i := 51) rfl)) rfl), rfl⟩
theorem fo_X0_24 : FOk RX0 24 0 4 := ⟨_, rfl, by decide, (wt (mt_1 (List.mem_of_getElem? (i := 54) rfl)) rfl), rfl⟩
theorem fo_X0_27 : FOk RX0 27 0 5 := ⟨_, rfl, by decide, (wt (mt_1 (List.mem_of_getElem? (i := 57) rfl)) rfl), rfl⟩
theorem fo_X0_31 : FOk RX0 31 0 6 := ⟨_, rfl, by decide, (wt (mt_1 (List.mem_of_getElem? (i := 60) rfl)) rfl), rfl⟩
theorem fo_X0_34 : FOk RX0 34 0 7 := ⟨_, rfl, by decide, (wt (mt_1 (List.mem_of_getElem? (i := 64) rfl)) rfl), rfl⟩
theorem fo_X0_37 : FOk RX0 37 0 8 := ⟨_, rfl, by decide, (wt (mt_1 (List.mem_of_getElem? (i := 68) rfl)) rfl), rfl⟩
theorem fo_X0_40 : FOk RX0 40 0 9 := ⟨_, rfl, by decide, (wt (mt_1 (List.mem_of_getElem? (i := 72) rfl)) rfl), rfl⟩
theorem fo_X0_44 : FOk RX0 44 0 10 := ⟨_, rfl, by decide, (wt (mt_1 (List.mem_of_getElem? (i := 74) rfl)) rfl), rfl⟩
theorem fo_X0_9 : FOk RX0 9 0 0 := ⟨_, rfl, by decide, (wt (mt_1 (List.mem_of_getElem? (i := 38) rfl)) rfl), rfl⟩
theorem fo_X1_100 : FOk RX1 100 1 14 := ⟨_, rfl, by decide, (wt (mt_1 (List.mem_of_getElem? (i := 202) rfl)) rfl), rfl⟩
theorem fo_X1_103 : FOk RX1 103 0 0 := ⟨_, rfl, by decide, (wt (mt_1 (List.mem_of_getElem? (i := 42) rfl)) rfl), rfl⟩
theorem fo_X1_113 : FOk RX1 113 1 15 := ⟨_, rfl, by decide, (wt (mt_1 (List.mem_of_getElem? (i := 203) rfl)) rfl), rfl⟩
theorem fo_X1_131 : FOk RX1 131 0 3 := ⟨_, rfl, by decide, (wt (mt_1 (List.mem_of_getElem? (i := 53) rfl)) rfl), rfl⟩
theorem fo_X1_134 : FOk RX1 134 0 8 := ⟨_, rfl, by decide, (wt (mt_1 (List.mem_of_getElem? (i := 71) rfl)) rfl), rfl⟩
theorem fo_X1_137 : FOk RX1 137 0 2 := ⟨_, rfl, by decide, (wt (mt_1 (List.mem_of_getElem? (i := 50) rfl)) rfl), rfl⟩
theorem fo_X1_147 : Cond.fieldLink RX1 147 "NinetyLamps$Flow" "SHARES" "[I" ∈ wl := (wt (mt_4 (List.mem_of_getElem? (i := 18) rfl)) rfl)
theorem fo_X1_15 : FOk RX1 15 1 2 := ⟨_, rfl, by decide, (wt (mt_1 (List.mem_of_getElem? (i := 186) rfl)) rfl), rfl⟩
theorem fo_X1_154 : FOk RX1 154 0 4 := ⟨_, rfl, by decide, (wt (mt_1 (List.mem_of_getElem? (i := 56) rfl)) rfl), rfl⟩
theorem fo_X1_157 : FOk RX1 157 0 1 := ⟨_, rfl, by decide, (wt (mt_1 (List.mem_of_getElem? (i := 47) rfl)) rfl), rfl⟩
theorem fo_X1_19 : FOk RX1 19 1 3 := ⟨_, rfl, by decide, (wt (mt_1 (List.mem_of_getElem? (i := 187) rfl)) rfl), rfl⟩
theorem fo_X1_22 : FOk RX1 22 1 4 := ⟨_, rfl, by decide, (wt (mt_1 (List.mem_of_getElem? (i := 188) rfl)) rfl), rfl⟩
theorem fo_X1_25 : FOk RX1 25 1 5 := ⟨_, rfl, by decide, (wt (mt_1 (List.mem_of_getElem? (i := 191) rfl)) rfl), rfl⟩
theorem fo_X1_28 : FOk RX1 28 1 6 := ⟨_, rfl, by decide, (wt (mt_1 (List.mem_of_getElem? (i := 193) rfl)) rfl), rfl⟩
theorem fo_X1_31 : FOk RX1 31 1 7 := ⟨_, rfl, by decide, (wt (mt_1 (List.mem_of_getElem? (i := 194) rfl)) rfl), rfl⟩
theorem fo_X1_34 : FOk RX1 34 1 10 := ⟨_, rfl, by decide, (wt (mt_1 (List.mem_of_getElem? (i := 198) rfl)) rfl), rfl⟩
theorem fo_X1_38 : FOk RX1 38 1 11 := ⟨_, rfl, by decide, (wt (mt_1 (List.mem_of_getElem? (i := 199) rfl)) rfl), rfl⟩
theorem fo_X1_41 : FOk RX1 41 1 12 := ⟨_, rfl, by decide, (wt (mt_1 (List.mem_of_getElem? (i := 200) rfl)) rfl), rfl⟩
theorem fo_X1_44 : FOk RX1 44 1 16 := ⟨_, rfl, by decide, (wt (mt_1 (List.mem_of_getElem? (i := 204) rfl)) rfl), rfl⟩
theorem fo_X1_47 : FOk RX1 47 1 0 := ⟨_, rfl, by decide, (wt (mt_1 (List.mem_of_getElem? (i := 184) rfl)) rfl), rfl⟩
theorem fo_X1_59 : FOk RX1 59 1 17 := ⟨_, rfl, by decide, (wt (mt_1 (List.mem_of_getElem? (i := 205) rfl)) rfl), rfl⟩
theorem fo_X1_62 : FOk RX1 62 1 18 := ⟨_, rfl, by decide, (wt (mt_1 (List.mem_of_getElem? (i := 207) rfl)) rfl), rfl⟩
theorem fo_X1_66 : FOk RX1 66 1 19 := ⟨_, rfl, by decide, (wt (mt_1 (List.mem_of_getElem? (i := 209) rfl)) rfl), rfl⟩
theorem fo_X1_69 : FOk RX1 69 1 8 := ⟨_, rfl, by decide, (wt (mt_1 (List.mem_of_getElem? (i := 196) rfl)) rfl), rfl⟩
theorem fo_X1_72 : FOk RX1 72 1 9 := ⟨_, rfl, by decide, (wt (mt_1 (List.mem_of_getElem? (i := 197) rfl)) rfl), rfl⟩
theorem fo_X1_75 : FOk RX1 75 0 5 := ⟨_, rfl, by decide, (wt (mt_1 (List.mem_of_getElem? (i := 58) rfl)) rfl), rfl⟩
theorem fo_X1_84 : FOk RX1 84 0 9 := ⟨_, rfl, by decide, (wt (mt_1 (List.mem_of_getElem? (i := 73) rfl)) rfl), rfl⟩
theorem fo_X1_85 : FOk RX1 85 0 10 := ⟨_, rfl, by decide, (wt (mt_1 (List.mem_of_getElem? (i := 75) rfl)) rfl), rfl⟩
theorem fo_X1_88 : FOk RX1 88 0 6 := ⟨_, rfl, by decide, (wt (mt_1 (List.mem_of_getElem? (i := 63) rfl)) rfl), rfl⟩
theorem fo_X1_9 : FOk RX1 9 1 1 := ⟨_, rfl, by decide, (wt (mt_1 (List.mem_of_getElem? (i := 185) rfl)) rfl), rfl⟩
theorem fo_X1_91 : FOk RX1 91 0 7 := ⟨_, rfl, by decide, (wt (mt_1 (List.mem_of_getElem? (i := 67) rfl)) rfl), rfl⟩
theorem fo_X1_97 : FOk RX1 97 1 13 := ⟨_, rfl, by decide, (wt (mt_1 (List.mem_of_getElem? (i := 201) rfl)) rfl), rfl⟩
theorem fo_X2_15 : FOk RX2 15 2 1 := ⟨_, rfl, by decide, (wt (mt_3 (List.mem_of_getElem? (i := 14) rfl)) rfl), rfl⟩
theorem fo_X2_19 : FOk RX2 19 2 2 := ⟨_, rfl, by decide, (wt (mt_3 (List.mem_of_getElem? (i := 15) rfl)) rfl), rfl⟩
theorem fo_X2_23 : FOk RX2 23 2 3 := ⟨_, rfl, by decide, (wt (mt_3 (List.mem_of_getElem? (i := 16) rfl)) rfl), rfl⟩
theorem fo_X2_26 : FOk RX2 26 2 4 := ⟨_, rfl, by decide, (wt (mt_3 (List.mem_of_getElem? (i := 17) rfl)) rfl), rfl⟩
theorem fo_X2_32 : FOk RX2 32 2 5 := ⟨_, rfl, by decide, (wt (mt_3 (List.mem_of_getElem? (i := 18) rfl)) rfl), rfl⟩
theorem fo_X2_36 : FOk RX2 36 0 1 := ⟨_, rfl, by decide, (wt (mt_1 (List.mem_of_getElem? (i := 44) rfl)) rfl), rfl⟩
theorem fo_X2_39 : FOk RX2 39 0 6 := ⟨_, rfl, by decide, (wt (mt_1 (List.mem_of_getElem? (i := 61) rfl)) rfl), rfl⟩
theorem fo_X2_46 : FOk RX2 46 0 7 := ⟨_, rfl, by decide, (wt (mt_1 (List.mem_of_getElem? (i := 65) rfl)) rfl), rfl⟩
theorem fo_X2_47 : FOk RX2 47 0 8 := ⟨_, rfl, by decide, (wt (mt_1 (List.mem_of_getElem? (i := 69) rfl)) rfl), rfl⟩
theorem fo_X2_9 : FOk RX2 9 2 0 := ⟨_, rfl, by decide, (wt (mt_3 (List.mem_of_getElem? (i := 12) rfl)) rfl), rfl⟩
theorem fo_X3_15 : FOk RX3 15 3 1 := ⟨_, rfl, by decide, (wt (mt_2 (List.mem_of_getElem? (i := 20) rfl)) rfl), rfl⟩
theorem fo_X3_18 : FOk RX3 18 3 2 := ⟨_, rfl, by decide, (wt (mt_2 (List.mem_of_getElem? (i := 22) rfl)) rfl), rfl⟩
theorem fo_X3_22 : FOk RX3 22 3 3 := ⟨_, rfl, by decide, (wt (mt_2 (List.mem_of_getElem? (i := 24) rfl)) rfl), rfl⟩
theorem fo_X3_25 : FOk RX3 25 3 4 := ⟨_, rfl, by decide, (wt (mt_2 (List.mem_of_getElem? (i := 27) rfl)) rfl), rfl⟩
theorem fo_X3_29 : FOk RX3 29 3 5 := ⟨_, rfl, by decide, (wt (mt_2 (List.mem_of_getElem? (i := 29) rfl)) rfl), rfl⟩
theorem fo_X3_32 : FOk RX3 32 3 6 := ⟨_, rfl, by decide, (wt (mt_2 (List.mem_of_getElem? (i := 31) rfl)) rfl), rfl⟩
theorem fo_X3_9 : FOk RX3 9 3 0 := ⟨_, rfl, by decide, (wt (mt_2 (List.mem_of_getElem? (i := 18) rfl)) rfl), rfl⟩
theorem fo_X4_121 : FOk RX4 121 4 13 := ⟨_, rfl, by decide, (wt (mt_2 (List.mem_of_getElem? (i := 120) rfl)) rfl), rfl⟩
theorem fo_X4_137 : FOk RX4 137 8 2 := ⟨_, rfl, by decide, (wt (mt_2 (List.mem_of_getElem? (i := 59) rfl)) rfl), rfl⟩
theorem fo_X4_140 : FOk RX4 140 8 3 := ⟨_, rfl, by decide, (wt (mt_2 (List.mem_of_getElem? (i := 63) rfl)) rfl), rfl⟩
theorem fo_X4_15 : FOk RX4 15 4 4 := ⟨_, rfl, by decide, (wt (mt_2 (List.mem_of_getElem? (i := 109) rfl)) rfl), rfl⟩
theorem fo_X4_162 : FOk RX4 162 1 4 := ⟨_, rfl, by decide, (wt (mt_1 (List.mem_of_getElem? (i := 190) rfl)) rfl), rfl⟩
theorem fo_X4_18 : FOk RX4 18 4 5 := ⟨_, rfl, by decide, (wt (mt_2 (List.mem_of_getElem? (i := 110) rfl)) rfl), rfl⟩
theorem fo_X4_21 : FOk RX4 21 4 7 := ⟨_, rfl, by decide, (wt (mt_2 (List.mem_of_getElem? (i := 112) rfl)) rfl), rfl⟩
theorem fo_X4_24 : FOk RX4 24 4 8 := ⟨_, rfl, by decide, (wt (mt_2 (List.mem_of_getElem? (i := 113) rfl)) rfl), rfl⟩
theorem fo_X4_27 : FOk RX4 27 4 9 := ⟨_, rfl, by decide, (wt (mt_2 (List.mem_of_getElem? (i := 114) rfl)) rfl), rfl⟩
theorem fo_X4_30 : FOk RX4 30 4 11 := ⟨_, rfl, by decide, (wt (mt_2 (List.mem_of_getElem? (i := 117) rfl)) rfl), rfl⟩
theorem fo_X4_33 : FOk RX4 33 4 12 := ⟨_, rfl, by decide, (wt (mt_2 (List.mem_of_getElem? (i := 119) rfl)) rfl), rfl⟩
theorem fo_X4_36 : FOk RX4 36 4 14 := ⟨_, rfl, by decide, (wt (mt_2 (List.mem_of_getElem? (i := 121) rfl)) rfl), rfl⟩
theorem fo_X4_39 : FOk RX4 39 4 15 := ⟨_, rfl, by decide, (wt (mt_2 (List.mem_of_getElem? (i := 123) rfl)) rfl), rfl⟩
theorem fo_X4_43 : FOk RX4 43 4 16 := ⟨_, rfl, by decide, (wt (mt_2 (List.mem_of_getElem? (i := 124) rfl)) rfl), rfl⟩
theorem fo_X4_46 : FOk RX4 46 4 0 := ⟨_, rfl, by decide, (wt (mt_2 (List.mem_of_getElem? (i := 105) rfl)) rfl), rfl⟩
theorem fo_X4_50 : FOk RX4 50 4 1 := ⟨_, rfl, by decide, (wt (mt_2 (List.mem_of_getElem? (i := 106) rfl)) rfl), rfl⟩
theorem fo_X4_54 : FOk RX4 54 4 3 := ⟨_, rfl, by decide, (wt (mt_2 (List.mem_of_getElem? (i := 108) rfl)) rfl), rfl⟩
theorem fo_X4_58 : FOk RX4 58 8 7 := ⟨_, rfl, by decide, (wt (mt_2 (List.mem_of_getElem? (i := 74) rfl)) rfl), rfl⟩
theorem fo_X4_67 : FOk RX4 67 8 4 := ⟨_, rfl, by decide, (wt (mt_2 (List.mem_of_getElem? (i := 66) rfl)) rfl), rfl⟩
theorem fo_X4_87 : FOk RX4 87 4 10 := ⟨_, rfl, by decide, (wt (mt_2 (List.mem_of_getElem? (i := 116) rfl)) rfl), rfl⟩
theorem fo_X4_9 : FOk RX4 9 4 2 := ⟨_, rfl, by decide, (wt (mt_2 (List.mem_of_getElem? (i := 107) rfl)) rfl), rfl⟩
theorem fo_X4_94 : FOk RX4 94 4 6 := ⟨_, rfl, by decide, (wt (mt_2 (List.mem_of_getElem? (i := 111) rfl)) rfl), rfl⟩
theorem fo_X5_15 : FOk RX5 15 5 2 := ⟨_, rfl, by decide, (wt (mt_2 (List.mem_of_getElem? (i := 206) rfl)) rfl), rfl⟩
theorem fo_X5_18 : FOk RX5 18 5 3 := ⟨_, rfl, by decide, (wt (mt_2 (List.mem_of_getElem? (i := 207) rfl)) rfl), rfl⟩
theorem fo_X5_22 : FOk RX5 22 5 4 := ⟨_, rfl, by decide, (wt (mt_2 (List.mem_of_getElem? (i := 209) rfl)) rfl), rfl⟩
theorem fo_X5_25 : FOk RX5 25 5 5 := ⟨_, rfl, by decide, (wt (mt_2 (List.mem_of_getElem? (i := 210) rfl)) rfl), rfl⟩
theorem fo_X5_28 : FOk RX5 28 5 6 := ⟨_, rfl, by decide, (wt (mt_2 (List.mem_of_getElem? (i := 212) rfl)) rfl), rfl⟩
theorem fo_X5_32 : FOk RX5 32 5 7 := ⟨_, rfl, by decide, (wt (mt_2 (List.mem_of_getElem? (i := 213) rfl)) rfl), rfl⟩
theorem fo_X5_35 : FOk RX5 35 5 8 := ⟨_, rfl, by decide, (wt (mt_2 (List.mem_of_getElem? (i := 214) rfl)) rfl), rfl⟩
theorem fo_X5_38 : FOk RX5 38 5 9 := ⟨_, rfl, by decide, (wt (mt_2 (List.mem_of_getElem? (i := 215) rfl)) rfl), rfl⟩
theorem fo_X5_41 : FOk RX5 41 5 10 := ⟨_, rfl, by decide, (wt (mt_2 (List.mem_of_getElem? (i := 216) rfl)) rfl), rfl⟩
theorem fo_X5_44 : FOk RX5 44 5 11 := ⟨_, rfl, by decide, (wt (mt_2 (List.mem_of_getElem? (i := 217) rfl)) rfl), rfl⟩
theorem fo_X5_47 : FOk RX5 47 5 0 := ⟨_, rfl, by decide, (wt (mt_2 (List.mem_of_getElem? (i := 204) rfl)) rfl), rfl⟩
theorem fo_X5_51 : FOk RX5 51 7 5 := ⟨_, rfl, by decide, (wt (mt_2 (List.mem_of_getElem? (i := 174) rfl)) rfl), rfl⟩
theorem fo_X5_56 : FOk RX5 56 7 4 := ⟨_, rfl, by decide, (wt (mt_2 (List.mem_of_getElem? (i := 171) rfl)) rfl), rfl⟩
theorem fo_X5_9 : FOk RX5 9 5 1 := ⟨_, rfl, by decide, (wt (mt_2 (List.mem_of_getElem? (i := 205) rfl)) rfl), rfl⟩
theorem fo_X6_11 : FOk RX6 11 6 1 := ⟨_, rfl, by decide, (wt (mt_1 (List.mem_of_getElem? (i := 125) rfl)) rfl), rfl⟩
theorem fo_X6_15 : FOk RX6 15 6 2 := ⟨_, rfl, by decide, (wt (mt_1 (List.mem_of_getElem? (i := 127) rfl)) rfl), rfl⟩
theorem fo_X6_18 : FOk RX6 18 6 3 := ⟨_, rfl, by decide, (wt (mt_1 (List.mem_of_getElem? (i := 129) rfl)) rfl), rfl⟩
theorem fo_X6_21 : FOk RX6 21 6 4 := ⟨_, rfl, by decide, (wt (mt_1 (List.mem_of_getElem? (i := 131) rfl)) rfl), rfl⟩
theorem fo_X6_24 : FOk RX6 24 6 0 := ⟨_, rfl, by decide, (wt (mt_1 (List.mem_of_getElem? (i := 124) rfl)) rfl), rfl⟩
theorem fo_X6_28 : FOk RX6 28 6 6 := ⟨_, rfl, by decide, (wt (mt_1 (List.mem_of_getElem? (i := 135) rfl)) rfl), rfl⟩
theorem fo_X6_32 : FOk RX6 32 6 7 := ⟨_, rfl, by decide, (wt (mt_1 (List.mem_of_getElem? (i := 136) rfl)) rfl), rfl⟩
theorem fo_X6_35 : FOk RX6 35 6 5 := ⟨_, rfl, by decide, (wt (mt_1 (List.mem_of_getElem? (i := 133) rfl)) rfl), rfl⟩
theorem fo_X6_38 : FOk RX6 38 6 9 := ⟨_, rfl, by decide, (wt (mt_1 (List.mem_of_getElem? (i := 138) rfl)) rfl), rfl⟩
theorem fo_X6_41 : FOk RX6 41 6 10 := ⟨_, rfl, by decide, (wt (mt_1 (List.mem_of_getElem? (i := 139) rfl)) rfl), rfl⟩
theorem fo_X6_44 : FOk RX6 44 9 1 := ⟨_, rfl, by decide, (wt (mt_1 (List.mem_of_getElem? (i := 111) rfl)) rfl), rfl⟩
theorem fo_X6_55 : FOk RX6 55 6 8 := ⟨_, rfl, by decide, (wt (mt_1 (List.mem_of_getElem? (i := 137) rfl)) rfl), rfl⟩
theorem fo_X6_96 : FOk RX6 96 9 0 := ⟨_, rfl, by decide, (wt (mt_1 (List.mem_of_getElem? (i := 108) rfl)) rfl), rfl⟩
theorem fo_X7_100 : FOk RX7 100 8 4 := ⟨_, rfl, by decide, (wt (mt_2 (List.mem_of_getElem? (i := 67) rfl)) rfl), rfl⟩
theorem fo_X7_103 : FOk RX7 103 8 2 := ⟨_, rfl, by decide, (wt (mt_2 (List.mem_of_getElem? (i := 58) rfl)) rfl), rfl⟩
theorem fo_X7_106 : FOk RX7 106 8 3 := ⟨_, rfl, by decide, (wt (mt_2 (List.mem_of_getElem? (i := 62) rfl)) rfl), rfl⟩
theorem fo_X7_113 : FOk RX7 113 8 7 := ⟨_, rfl, by decide, (wt (mt_2 (List.mem_of_getElem? (i := 75) rfl)) rfl), rfl⟩
theorem fo_X7_119 : FOk RX7 119 3 3 := ⟨_, rfl, by decide, (wt (mt_2 (List.mem_of_getElem? (i := 25) rfl)) rfl), rfl⟩
theorem fo_X7_124 : FOk RX7 124 3 4 := ⟨_, rfl, by decide, (wt (mt_2 (List.mem_of_getElem? (i := 28) rfl)) rfl), rfl⟩
theorem fo_X7_127 : FOk RX7 127 3 5 := ⟨_, rfl, by decide, (wt (mt_2 (List.mem_of_getElem? (i := 30) rfl)) rfl), rfl⟩
theorem fo_X7_130 : FOk RX7 130 3 6 := ⟨_, rfl, by decide, (wt (mt_2 (List.mem_of_getElem? (i := 32) rfl)) rfl), rfl⟩
theorem fo_X7_15 : FOk RX7 15 7 5 := ⟨_, rfl, by decide, (wt (mt_2 (List.mem_of_getElem? (i := 173) rfl)) rfl), rfl⟩
theorem fo_X7_19 : FOk RX7 19 7 6 := ⟨_, rfl, by decide, (wt (mt_2 (List.mem_of_getElem? (i := 176) rfl)) rfl), rfl⟩
theorem fo_X7_23 : FOk RX7 23 7 7 := ⟨_, rfl, by decide, (wt (mt_2 (List.mem_of_getElem? (i := 177) rfl)) rfl), rfl⟩
theorem fo_X7_26 : FOk RX7 26 7 8 := ⟨_, rfl, by decide, (wt (mt_2 (List.mem_of_getElem? (i := 178) rfl)) rfl), rfl⟩
theorem fo_X7_29 : FOk RX7 29 7 0 := ⟨_, rfl, by decide, (wt (mt_2 (List.mem_of_getElem? (i := 166) rfl)) rfl), rfl⟩
theorem fo_X7_33 : FOk RX7 33 8 0 := ⟨_, rfl, by decide, (wt (mt_2 (List.mem_of_getElem? (i := 54) rfl)) rfl), rfl⟩
theorem fo_X7_39 : FOk RX7 39 7 1 := ⟨_, rfl, by decide, (wt (mt_2 (List.mem_of_getElem? (i := 167) rfl)) rfl), rfl⟩
theorem fo_X7_40 : FOk RX7 40 7 2 := ⟨_, rfl, by decide, (wt (mt_2 (List.mem_of_getElem? (i := 168) rfl)) rfl), rfl⟩
theorem fo_X7_44 : FOk RX7 44 7 3 := ⟨_, rfl, by decide, (wt (mt_2 (List.mem_of_getElem? (i := 169) rfl)) rfl), rfl⟩
theorem fo_X7_48 : FOk RX7 48 0 0 := ⟨_, rfl, by decide, (wt (mt_1 (List.mem_of_getElem? (i := 39) rfl)) rfl), rfl⟩
theorem fo_X7_60 : FOk RX7 60 0 1 := ⟨_, rfl, by decide, (wt (mt_1 (List.mem_of_getElem? (i := 45) rfl)) rfl), rfl⟩
theorem fo_X7_9 : FOk RX7 9 7 4 := ⟨_, rfl, by decide, (wt (mt_2 (List.mem_of_getElem? (i := 170) rfl)) rfl), rfl⟩
theorem fo_X8_15 : FOk RX8 15 8 3 := ⟨_, rfl, by decide, (wt (mt_2 (List.mem_of_getElem? (i := 61) rfl)) rfl), rfl⟩
theorem fo_X8_18 : FOk RX8 18 8 4 := ⟨_, rfl, by decide, (wt (mt_2 (List.mem_of_getElem? (i := 65) rfl)) rfl), rfl⟩
theorem fo_X8_22 : FOk RX8 22 8 5 := ⟨_, rfl, by decide, (wt (mt_2 (List.mem_of_getElem? (i := 69) rfl)) rfl), rfl⟩
theorem fo_X8_26 : FOk RX8 26 8 6 := ⟨_, rfl, by decide, (wt (mt_2 (List.mem_of_getElem? (i := 71) rfl)) rfl), rfl⟩
theorem fo_X8_29 : FOk RX8 29 8 7 := ⟨_, rfl, by decide, (wt (mt_2 (List.mem_of_getElem? (i := 73) rfl)) rfl), rfl⟩
theorem fo_X8_33 : FOk RX8 33 8 8 := ⟨_, rfl, by decide, (wt (mt_2 (List.mem_of_getElem? (i := 77) rfl)) rfl), rfl⟩
theorem fo_X8_37 : FOk RX8 37 8 0 := ⟨_, rfl, by decide, (wt (mt_2 (List.mem_of_getElem? (i := 55) rfl)) rfl), rfl⟩
theorem fo_X8_41 : FOk RX8 41 8 1 := ⟨_, rfl, by decide, (wt (mt_2 (List.mem_of_getElem? (i := 56) rfl)) rfl), rfl⟩
theorem fo_X8_45 : FOk RX8 45 0 0 := ⟨_, rfl, by decide, (wt (mt_1 (List.mem_of_getElem? (i := 40) rfl)) rfl), rfl⟩
theorem fo_X8_9 : FOk RX8 9 8 2 := ⟨_, rfl, by decide, (wt (mt_2 (List.mem_of_getElem? (i := 57) rfl)) rfl), rfl⟩
theorem fo_X9_13 : FOk RX9 13 9 1 := ⟨_, rfl, by decide, (wt (mt_1 (List.mem_of_getElem? (i := 109) rfl)) rfl), rfl⟩
theorem fo_X9_7 : FOk RX9 7 9 0 := ⟨_, rfl, by decide, (wt (mt_1 (List.mem_of_getElem? (i := 107) rfl)) rfl), rfl⟩
theorem fo_X10_13 : FOk RX10 13 10 1 := ⟨_, rfl, by decide, (wt (mt_1 (List.mem_of_getElem? (i := 171) rfl)) rfl), rfl⟩
theorem fo_X10_7 : FOk RX10 7 10 0 := ⟨_, rfl, by decide, (wt (mt_1 (List.mem_of_getElem? (i := 169) rfl)) rfl), rfl⟩
theorem fo_X11_10 : FOk RX11 10 11 0 := ⟨_, rfl, by decide, (wt (mt_3 (List.mem_of_getElem? (i := 32) rfl)) rfl), rfl⟩
theorem fo_X11_102 : FOk RX11 102 9 1 := ⟨_, rfl, by decide, (wt (mt_1 (List.mem_of_getElem? (i := 110) rfl)) rfl), rfl⟩
theorem fo_X11_106 : FOk RX11 106 0 0 := ⟨_, rfl, by decide, (wt (mt_1 (List.mem_of_getElem? (i := 41) rfl)) rfl), rfl⟩
theorem fo_X11_109 : FOk RX11 109 0 1 := ⟨_, rfl, by decide, (wt (mt_1 (List.mem_of_getElem? (i := 46) rfl)) rfl), rfl⟩
theorem fo_X11_116 : FOk RX11 116 6 5 := ⟨_, rfl, by decide, (wt (mt_1 (List.mem_of_getElem? (i := 134) rfl)) rfl), rfl⟩
theorem fo_X11_123 : FOk RX11 123 8 8 := ⟨_, rfl, by decide, (wt (mt_2 (List.mem_of_getElem? (i := 78) rfl)) rfl), rfl⟩
theorem fo_X11_127 : FOk RX11 127 0 2 := ⟨_, rfl, by decide, (wt (mt_1 (List.mem_of_getElem? (i := 49) rfl)) rfl), rfl⟩
theorem fo_X11_130 : FOk RX11 130 0 3 := ⟨_, rfl, by decide, (wt (mt_1 (List.mem_of_getElem? (i := 52) rfl)) rfl), rfl⟩
theorem fo_X11_133 : FOk RX11 133 0 4 := ⟨_, rfl, by decide, (wt (mt_1 (List.mem_of_getElem? (i := 55) rfl)) rfl), rfl⟩
theorem fo_X11_142 : FOk RX11 142 0 6 := ⟨_, rfl, by decide, (wt (mt_1 (List.mem_of_getElem? (i := 62) rfl)) rfl), rfl⟩
theorem fo_X11_146 : FOk RX11 146 0 7 := ⟨_, rfl, by decide, (wt (mt_1 (List.mem_of_getElem? (i := 66) rfl)) rfl), rfl⟩
theorem fo_X11_149 : FOk RX11 149 0 8 := ⟨_, rfl, by decide, (wt (mt_1 (List.mem_of_getElem? (i := 70) rfl)) rfl), rfl⟩
theorem fo_X11_155 : FOk RX11 155 0 5 := ⟨_, rfl, by decide, (wt (mt_1 (List.mem_of_getElem? (i := 59) rfl)) rfl), rfl⟩
theorem fo_X11_180 : FOk RX11 180 3 0 := ⟨_, rfl, by decide, (wt (mt_2 (List.mem_of_getElem? (i := 19) rfl)) rfl), rfl⟩
theorem fo_X11_183 : FOk RX11 183 3 1 := ⟨_, rfl, by decide, (wt (mt_2 (List.mem_of_getElem? (i := 21) rfl)) rfl), rfl⟩
theorem fo_X11_19 : FOk RX11 19 11 1 := ⟨_, rfl, by decide, (wt (mt_3 (List.mem_of_getElem? (i := 33) rfl)) rfl), rfl⟩
theorem fo_X11_208 : FOk RX11 208 1 17 := ⟨_, rfl, by decide, (wt (mt_1 (List.mem_of_getElem? (i := 206) rfl)) rfl), rfl⟩
theorem fo_X11_215 : FOk RX11 215 1 18 := ⟨_, rfl, by decide, (wt (mt_1 (List.mem_of_getElem? (i := 208) rfl)) rfl), rfl⟩
theorem fo_X11_219 : FOk RX11 219 1 4 := ⟨_, rfl, by decide, (wt (mt_1 (List.mem_of_getElem? (i := 189) rfl)) rfl), rfl⟩
theorem fo_X11_225 : FOk RX11 225 1 19 := ⟨_, rfl, by decide, (wt (mt_1 (List.mem_of_getElem? (i := 210) rfl)) rfl), rfl⟩
theorem fo_X11_228 : FOk RX11 228 1 7 := ⟨_, rfl, by decide, (wt (mt_1 (List.mem_of_getElem? (i := 195) rfl)) rfl), rfl⟩
theorem fo_X11_231 : FOk RX11 231 1 5 := ⟨_, rfl, by decide, (wt (mt_1 (List.mem_of_getElem? (i := 192) rfl)) rfl), rfl⟩
theorem fo_X11_245 : FOk RX11 245 8 7 := ⟨_, rfl, by decide, (wt (mt_2 (List.mem_of_getElem? (i := 76) rfl)) rfl), rfl⟩
theorem fo_X11_246 : FOk RX11 246 8 4 := ⟨_, rfl, by decide, (wt (mt_2 (List.mem_of_getElem? (i := 68) rfl)) rfl), rfl⟩
theorem fo_X11_249 : FOk RX11 249 8 2 := ⟨_, rfl, by decide, (wt (mt_2 (List.mem_of_getElem? (i := 60) rfl)) rfl), rfl⟩
theorem fo_X11_251 : FOk RX11 251 8 3 := ⟨_, rfl, by decide, (wt (mt_2 (List.mem_of_getElem? (i := 64) rfl)) rfl), rfl⟩
theorem fo_X11_253 : FOk RX11 253 8 5 := ⟨_, rfl, by decide, (wt (mt_2 (List.mem_of_getElem? (i := 70) rfl)) rfl), rfl⟩
theorem fo_X11_257 : FOk RX11 257 8 6 := ⟨_, rfl, by decide, (wt (mt_2 (List.mem_of_getElem? (i := 72) rfl)) rfl), rfl⟩
theorem fo_X11_279 : FOk RX11 279 3 2 := ⟨_, rfl, by decide, (wt (mt_2 (List.mem_of_getElem? (i := 23) rfl)) rfl), rfl⟩
theorem fo_X11_28 : FOk RX11 28 11 2 := ⟨_, rfl, by decide, (wt (mt_3 (List.mem_of_getElem? (i := 34) rfl)) rfl), rfl⟩
theorem fo_X11_286 : FOk RX11 286 4 9 := ⟨_, rfl, by decide, (wt (mt_2 (List.mem_of_getElem? (i := 115) rfl)) rfl), rfl⟩
theorem fo_X11_307 : FOk RX11 307 4 11 := ⟨_, rfl, by decide, (wt (mt_2 (List.mem_of_getElem? (i := 118) rfl)) rfl), rfl⟩
theorem fo_X11_313 : FOk RX11 313 4 14 := ⟨_, rfl, by decide, (wt (mt_2 (List.mem_of_getElem? (i := 122) rfl)) rfl), rfl⟩
theorem fo_X11_35 : FOk RX11 35 11 3 := ⟨_, rfl, by decide, (wt (mt_3 (List.mem_of_getElem? (i := 35) rfl)) rfl), rfl⟩
theorem fo_X11_350 : FOk RX11 350 3 3 := ⟨_, rfl, by decide, (wt (mt_2 (List.mem_of_getElem? (i := 26) rfl)) rfl), rfl⟩
theorem fo_X11_356 : FOk RX11 356 7 5 := ⟨_, rfl, by decide, (wt (mt_2 (List.mem_of_getElem? (i := 175) rfl)) rfl), rfl⟩
theorem fo_X11_359 : FOk RX11 359 7 4 := ⟨_, rfl, by decide, (wt (mt_2 (List.mem_of_getElem? (i := 172) rfl)) rfl), rfl⟩
theorem fo_X11_371 : FOk RX11 371 5 3 := ⟨_, rfl, by decide, (wt (mt_2 (List.mem_of_getElem? (i := 208) rfl)) rfl), rfl⟩
theorem fo_X11_380 : FOk RX11 380 5 5 := ⟨_, rfl, by decide, (wt (mt_2 (List.mem_of_getElem? (i := 211) rfl)) rfl), rfl⟩
theorem fo_X11_396 : FOk RX11 396 2 0 := ⟨_, rfl, by decide, (wt (mt_3 (List.mem_of_getElem? (i := 13) rfl)) rfl), rfl⟩
theorem fo_X11_402 : FOk RX11 402 10 1 := ⟨_, rfl, by decide, (wt (mt_1 (List.mem_of_getElem? (i := 172) rfl)) rfl), rfl⟩
theorem fo_X11_403 : FOk RX11 403 10 0 := ⟨_, rfl, by decide, (wt (mt_1 (List.mem_of_getElem? (i := 170) rfl)) rfl), rfl⟩
theorem fo_X11_406 : FOk RX11 406 6 1 := ⟨_, rfl, by decide, (wt (mt_1 (List.mem_of_getElem? (i := 126) rfl)) rfl), rfl⟩
theorem fo_X11_409 : FOk RX11 409 6 4 := ⟨_, rfl, by decide, (wt (mt_1 (List.mem_of_getElem? (i := 132) rfl)) rfl), rfl⟩
theorem fo_X11_415 : FOk RX11 415 6 2 := ⟨_, rfl, by decide, (wt (mt_1 (List.mem_of_getElem? (i := 128) rfl)) rfl), rfl⟩
theorem fo_X11_421 : FOk RX11 421 6 3 := ⟨_, rfl, by decide, (wt (mt_1 (List.mem_of_getElem? (i := 130) rfl)) rfl), rfl⟩
theorem fo_X11_44 : FOk RX11 44 11 4 := ⟨_, rfl, by decide, (wt (mt_3 (List.mem_of_getElem? (i := 36) rfl)) rfl), rfl⟩
theorem fo_X11_51 : FOk RX11 51 11 5 := ⟨_, rfl, by decide, (wt (mt_3 (List.mem_of_getElem? (i := 37) rfl)) rfl), rfl⟩
theorem fo_X11_60 : FOk RX11 60 11 6 := ⟨_, rfl, by decide, (wt (mt_3 (List.mem_of_getElem? (i := 38) rfl)) rfl), rfl⟩
theorem fo_X11_69 : FOk RX11 69 11 7 := ⟨_, rfl, by decide, (wt (mt_3 (List.mem_of_getElem? (i := 39) rfl)) rfl), rfl⟩
theorem fo_X11_78 : FOk RX11 78 11 8 := ⟨_, rfl, by decide, (wt (mt_3 (List.mem_of_getElem? (i := 40) rfl)) rfl), rfl⟩
theorem fo_X11_87 : FOk RX11 87 11 9 := ⟨_, rfl, by decide, (wt (mt_3 (List.mem_of_getElem? (i := 41) rfl)) rfl), rfl⟩
theorem fo_X11_94 : FOk RX11 94 11 10 := ⟨_, rfl, by decide, (wt (mt_3 (List.mem_of_getElem? (i := 42) rfl)) rfl), rfl⟩
theorem fo_X12_101 : FOk RX12 101 12 52 := ⟨_, rfl, by decide, (wt (mt_6 (List.mem_of_getElem? (i := 181) rfl)) rfl), rfl⟩
theorem fo_X12_104 : FOk RX12 104 12 53 := ⟨_, rfl, by decide, (wt (mt_6 (List.mem_of_getElem? (i := 182) rfl)) rfl), rfl⟩
theorem fo_X12_107 : FOk RX12 107 12 55 := ⟨_, rfl, by decide, (wt (mt_6 (List.mem_of_getElem? (i := 184) rfl)) rfl), rfl⟩
theorem fo_X12_110 : FOk RX12 110 12 56 := ⟨_, rfl, by decide, (wt (mt_6 (List.mem_of_getElem? (i := 185) rfl)) rfl), rfl⟩
theorem fo_X12_113 : FOk RX12 113 12 57 := ⟨_, rfl, by decide, (wt (mt_6 (List.mem_of_getElem? (i := 186) rfl)) rfl), rfl⟩
theorem fo_X12_116 : FOk RX12 116 12 59 := ⟨_, rfl, by decide, (wt (mt_6 (List.mem_of_getElem? (i := 188) rfl)) rfl), rfl⟩
theorem fo_X12_119 : FOk RX12 119 12 60 := ⟨_, rfl, by decide, (wt (mt_6 (List.mem_of_getElem? (i := 189) rfl)) rfl), rfl⟩
theorem fo_X12_122 : FOk RX12 122 12 61 := ⟨_, rfl, by decide, (wt (mt_6 (List.mem_of_getElem? (i := 190) rfl)) rfl), rfl⟩
theorem fo_X12_125 : FOk RX12 125 12 62 := ⟨_, rfl, by decide, (wt (mt_6 (List.mem_of_getElem? (i := 191) rfl)) rfl), rfl⟩
theorem fo_X12_129 : FOk RX12 129 12 64 := ⟨_, rfl, by decide, (wt (mt_6 (List.mem_of_getElem? (i := 193) rfl)) rfl), rfl⟩
theorem fo_X12_13 : FOk RX12 13 12 2 := ⟨_, rfl, by decide, (wt (mt_6 (List.mem_of_getElem? (i := 131) rfl)) rfl), rfl⟩
theorem fo_X12_132 : FOk RX12 132 12 66 := ⟨_, rfl, by decide, (wt (mt_6 (List.mem_of_getElem? (i := 195) rfl)) rfl), rfl⟩
theorem fo_X12_135 : FOk RX12 135 12 67 := ⟨_, rfl, by decide, (wt (mt_6 (List.mem_of_getElem? (i := 196) rfl)) rfl), rfl⟩
theorem fo_X12_138 : FOk RX12 138 12 68 := ⟨_, rfl, by decide, (wt (mt_6 (List.mem_of_getElem? (i := 197) rfl)) rfl), rfl⟩
theorem fo_X12_141 : FOk RX12 141 12 69 := ⟨_, rfl, by decide, (wt (mt_6 (List.mem_of_getElem? (i := 198) rfl)) rfl), rfl⟩
theorem fo_X12_144 : FOk RX12 144 12 70 := ⟨_, rfl, by decide, (wt (mt_6 (List.mem_of_getElem? (i := 199) rfl)) rfl), rfl⟩
theorem fo_X12_147 : FOk RX12 147 12 71 := ⟨_, rfl, by decide, (wt (mt_6 (List.mem_of_getElem? (i := 200) rfl)) rfl), rfl⟩
theorem fo_X12_150 : FOk RX12 150 12 72 := ⟨_, rfl, by decide, (wt (mt_6 (List.mem_of_getElem? (i := 201) rfl)) rfl), rfl⟩
theorem fo_X12_153 : FOk RX12 153 12 73 := ⟨_, rfl, by decide, (wt (mt_6 (List.mem_of_getElem? (i := 202) rfl)) rfl), rfl⟩
theorem fo_X12_156 : FOk RX12 156 12 74 := ⟨_, rfl, by decide, (wt (mt_6 (List.mem_of_getElem? (i := 203) rfl)) rfl), rfl⟩
theorem fo_X12_159 : FOk RX12 159 12 14 := ⟨_, rfl, by decide, (wt (mt_6 (List.mem_of_getElem? (i := 143) rfl)) rfl), rfl⟩
theorem fo_X12_162 : FOk RX12 162 12 13 := ⟨_, rfl, by decide, (wt (mt_6 (List.mem_of_getElem? (i := 142) rfl)) rfl), rfl⟩
theorem fo_X12_169 : FOk RX12 169 12 1 := ⟨_, rfl, by decide, (wt (mt_6 (List.mem_of_getElem? (i := 130) rfl)) rfl), rfl⟩
theorem fo_X12_17 : FOk RX12 17 12 3 := ⟨_, rfl, by decide, (wt (mt_6 (List.mem_of_getElem? (i := 132) rfl)) rfl), rfl⟩
theorem fo_X12_172 : FOk RX12 172 12 11 := ⟨_, rfl, by decide, (wt (mt_6 (List.mem_of_getElem? (i := 140) rfl)) rfl), rfl⟩
theorem fo_X12_175 : FOk RX12 175 12 16 := ⟨_, rfl, by decide, (wt (mt_6 (List.mem_of_getElem? (i := 145) rfl)) rfl), rfl⟩
theorem fo_X12_178 : FOk RX12 178 12 15 := ⟨_, rfl, by decide, (wt (mt_6 (List.mem_of_getElem? (i := 144) rfl)) rfl), rfl⟩
theorem fo_X12_181 : FOk RX12 181 12 17 := ⟨_, rfl, by decide, (wt (mt_6 (List.mem_of_getElem? (i := 146) rfl)) rfl), rfl⟩
theorem fo_X12_20 : FOk RX12 20 12 4 := ⟨_, rfl, by decide, (wt (mt_6 (List.mem_of_getElem? (i := 133) rfl)) rfl), rfl⟩
theorem fo_X12_211 : FOk RX12 211 12 7 := ⟨_, rfl, by decide, (wt (mt_6 (List.mem_of_getElem? (i := 136) rfl)) rfl), rfl⟩
theorem fo_X12_214 : FOk RX12 214 12 8 := ⟨_, rfl, by decide, (wt (mt_6 (List.mem_of_getElem? (i := 137) rfl)) rfl), rfl⟩
theorem fo_X12_217 : FOk RX12 217 12 58 := ⟨_, rfl, by decide, (wt (mt_6 (List.mem_of_getElem? (i := 187) rfl)) rfl), rfl⟩
theorem fo_X12_220 : FOk RX12 220 12 65 := ⟨_, rfl, by decide, (wt (mt_6 (List.mem_of_getElem? (i := 194) rfl)) rfl), rfl⟩
theorem fo_X12_223 : FOk RX12 223 12 9 := ⟨_, rfl, by decide, (wt (mt_6 (List.mem_of_getElem? (i := 138) rfl)) rfl), rfl⟩
theorem fo_X12_23 : FOk RX12 23 12 5 := ⟨_, rfl, by decide, (wt (mt_6 (List.mem_of_getElem? (i := 134) rfl)) rfl), rfl⟩
theorem fo_X12_26 : FOk RX12 26 12 6 := ⟨_, rfl, by decide, (wt (mt_6 (List.mem_of_getElem? (i := 135) rfl)) rfl), rfl⟩
theorem fo_X12_270 : FOk RX12 270 12 19 := ⟨_, rfl, by decide, (wt (mt_6 (List.mem_of_getElem? (i := 148) rfl)) rfl), rfl⟩
theorem fo_X12_273 : FOk RX12 273 12 20 := ⟨_, rfl, by decide, (wt (mt_6 (List.mem_of_getElem? (i := 149) rfl)) rfl), rfl⟩
theorem fo_X12_279 : FOk RX12 279 12 24 := ⟨_, rfl, by decide, (wt (mt_6 (List.mem_of_getElem? (i := 153) rfl)) rfl), rfl⟩
theorem fo_X12_282 : FOk RX12 282 12 25 := ⟨_, rfl, by decide, (wt (mt_6 (List.mem_of_getElem? (i := 154) rfl)) rfl), rfl⟩
theorem fo_X12_285 : FOk RX12 285 12 26 := ⟨_, rfl, by decide, (wt (mt_6 (List.mem_of_getElem? (i := 155) rfl)) rfl), rfl⟩
theorem fo_X12_288 : FOk RX12 288 12 27 := ⟨_, rfl, by decide, (wt (mt_6 (List.mem_of_getElem? (i := 156) rfl)) rfl), rfl⟩
theorem fo_X12_29 : FOk RX12 29 12 10 := ⟨_, rfl, by decide, (wt (mt_6 (List.mem_of_getElem? (i := 139) rfl)) rfl), rfl⟩
theorem fo_X12_291 : FOk RX12 291 12 28 := ⟨_, rfl, by decide, (wt (mt_6 (List.mem_of_getElem? (i := 157) rfl)) rfl), rfl⟩
theorem fo_X12_298 : FOk RX12 298 12 29 := ⟨_, rfl, by decide, (wt (mt_6 (List.mem_of_getElem? (i := 158) rfl)) rfl), rfl⟩
theorem fo_X12_301 : FOk RX12 301 12 39 := ⟨_, rfl, by decide, (wt (mt_6 (List.mem_of_getElem? (i := 168) rfl)) rfl), rfl⟩
theorem fo_X12_328 : FOk RX12 328 12 36 := ⟨_, rfl, by decide, (wt (mt_6 (List.mem_of_getElem? (i := 165) rfl)) rfl), rfl⟩
theorem fo_X12_33 : FOk RX12 33 12 12 := ⟨_, rfl, by decide, (wt (mt_6 (List.mem_of_getElem? (i := 141) rfl)) rfl), rfl⟩
theorem fo_X12_332 : FOk RX12 332 12 37 := ⟨_, rfl, by decide, (wt (mt_6 (List.mem_of_getElem? (i := 166) rfl)) rfl), rfl⟩
theorem fo_X12_37 : FOk RX12 37 12 18 := ⟨_, rfl, by decide, (wt (mt_6 (List.mem_of_getElem? (i := 147) rfl)) rfl), rfl⟩
theorem fo_X12_40 : FOk RX12 40 12 21 := ⟨_, rfl, by decide, (wt (mt_6 (List.mem_of_getElem? (i := 150) rfl)) rfl), rfl⟩
theorem fo_X12_409 : FOk RX12 409 12 44 := ⟨_, rfl, by decide, (wt (mt_6 (List.mem_of_getElem? (i := 173) rfl)) rfl), rfl⟩
theorem fo_X12_424 : FOk RX12 424 12 51 := ⟨_, rfl, by decide, (wt (mt_6 (List.mem_of_getElem? (i := 180) rfl)) rfl), rfl⟩
theorem fo_X12_43 : FOk RX12 43 12 22 := ⟨_, rfl, by decide, (wt (mt_6 (List.mem_of_getElem? (i := 151) rfl)) rfl), rfl⟩
theorem fo_X12_438 : FOk RX12 438 12 54 := ⟨_, rfl, by decide, (wt (mt_6 (List.mem_of_getElem? (i := 183) rfl)) rfl), rfl⟩
theorem fo_X12_46 : FOk RX12 46 12 23 := ⟨_, rfl, by decide, (wt (mt_6 (List.mem_of_getElem? (i := 152) rfl)) rfl), rfl⟩
theorem fo_X12_462 : FOk RX12 462 12 63 := ⟨_, rfl, by decide, (wt (mt_6 (List.mem_of_getElem? (i := 192) rfl)) rfl), rfl⟩
theorem fo_X12_49 : FOk RX12 49 12 30 := ⟨_, rfl, by decide, (wt (mt_6 (List.mem_of_getElem? (i := 159) rfl)) rfl), rfl⟩
theorem fo_X12_52 : FOk RX12 52 12 31 := ⟨_, rfl, by decide, (wt (mt_6 (List.mem_of_getElem? (i := 160) rfl)) rfl), rfl⟩
theorem fo_X12_55 : FOk RX12 55 12 32 := ⟨_, rfl, by decide, (wt (mt_6 (List.mem_of_getElem? (i := 161) rfl)) rfl), rfl⟩
theorem fo_X12_58 : FOk RX12 58 12 33 := ⟨_, rfl, by decide, (wt (mt_6 (List.mem_of_getElem? (i := 162) rfl)) rfl), rfl⟩
theorem fo_X12_61 : FOk RX12 61 12 34 := ⟨_, rfl, by decide, (wt (mt_6 (List.mem_of_getElem? (i := 163) rfl)) rfl), rfl⟩
theorem fo_X12_64 : FOk RX12 64 12 35 := ⟨_, rfl, by decide, (wt (mt_6 (List.mem_of_getElem? (i := 164) rfl)) rfl), rfl⟩
theorem fo_X12_67 : FOk RX12 67 12 38 := ⟨_, rfl, by decide, (wt (mt_6 (List.mem_of_getElem? (i := 167) rfl)) rfl), rfl⟩
theorem fo_X12_70 : FOk RX12 70 12 40 := ⟨_, rfl, by decide, (wt (mt_6 (List.mem_of_getElem? (i := 169) rfl)) rfl), rfl⟩
theorem fo_X12_73 : FOk RX12 73 12 41 := ⟨_, rfl, by decide, (wt (mt_6 (List.mem_of_getElem? (i := 170) rfl)) rfl), rfl⟩
theorem fo_X12_77 : FOk RX12 77 12 42 := ⟨_, rfl, by decide, (wt (mt_6 (List.mem_of_getElem? (i := 171) rfl)) rfl), rfl⟩
theorem fo_X12_80 : FOk RX12 80 12 43 := ⟨_, rfl, by decide, (wt (mt_6 (List.mem_of_getElem? (i := 172) rfl)) rfl), rfl⟩
theorem fo_X12_83 : FOk RX12 83 12 45 := ⟨_, rfl, by decide, (wt (mt_6 (List.mem_of_getElem? (i := 174) rfl)) rfl), rfl⟩
theorem fo_X12_86 : FOk RX12 86 12 46 := ⟨_, rfl, by decide, (wt (mt_6 (List.mem_of_getElem? (i := 175) rfl)) rfl), rfl⟩
theorem fo_X12_89 : FOk RX12 89 12 47 := ⟨_, rfl, by decide, (wt (mt_6 (List.mem_of_getElem? (i := 176) rfl)) rfl), rfl⟩
theorem fo_X12_9 : FOk RX12 9 12 0 := ⟨_, rfl, by decide, (wt (mt_6 (List.mem_of_getElem? (i := 129) rfl)) rfl), rfl⟩
theorem fo_X12_92 : FOk RX12 92 12 48 := ⟨_, rfl, by decide, (wt (mt_6 (List.mem_of_getElem? (i := 177) rfl)) rfl), rfl⟩
theorem fo_X12_95 : FOk RX12 95 12 49 := ⟨_, rfl, by decide, (wt (mt_6 (List.mem_of_getElem? (i := 178) rfl)) rfl), rfl⟩
theorem fo_X12_98 : FOk RX12 98 12 50 := ⟨_, rfl, by decide, (wt (mt_6 (List.mem_of_getElem? (i := 179) rfl)) rfl), rfl⟩
theorem ko_X12_128 : Cond.constant RX12 128 (253692) ∈ wl := (wt (mt_6 (List.mem_of_getElem? (i := 128) rfl)) rfl)
theorem ko_X12_419 : Cond.constant RX12 419 (1000000) ∈ wl := (wt (mt_8 (List.mem_of_getElem? (i := 164) rfl)) rfl)
theorem ko_J6_264 : Cond.constant RJ6 264 (65536) ∈ wl := (wt (mt_4 (List.mem_of_getElem? (i := 4) rfl)) rfl)
theorem ko_J6_265 : Cond.constant RJ6 265 (1431655765) ∈ wl := (wt (mt_4 (List.mem_of_getElem? (i := 229) rfl)) rfl)
theorem ko_J6_266 : Cond.constant RJ6 266 (858993459) ∈ wl := (wt (mt_4 (List.mem_of_getElem? (i := 230) rfl)) rfl)
theorem ko_J6_267 : Cond.constant RJ6 267 (252645135) ∈ wl := (wt (mt_4 (List.mem_of_getElem? (i := 231) rfl)) rfl)
theorem ko_X1_160 : Cond.constantLong RX1 160 (100) ∈ wl := (wt (mt_4 (List.mem_of_getElem? (i := 28) rfl)) rfl)
theorem ko_X1_162 : Cond.constantLong RX1 162 (27720) ∈ wl := (wt (mt_4 (List.mem_of_getElem? (i := 29) rfl)) rfl)
theorem ko_X1_86 : Cond.constantLong RX1 86 (-1) ∈ wl := (wt (mt_5 (List.mem_of_getElem? (i := 104) rfl)) rfl)
theorem ko_X8_78 : Cond.constantLong RX8 78 (-1) ∈ wl := (wt (mt_4 (List.mem_of_getElem? (i := 105) rfl)) rfl)
theorem ko_X8_84 : Cond.constantLong RX8 84 (-7046029254386353131) ∈ wl := (wt (mt_4 (List.mem_of_getElem? (i := 129) rfl)) rfl)
theorem ko_X11_199 : Cond.constantLong RX11 199 (-1) ∈ wl := (wt (mt_4 (List.mem_of_getElem? (i := 43) rfl)) rfl)
theorem ko_X11_223 : Cond.constantLong RX11 223 (-2) ∈ wl := (wt (mt_4 (List.mem_of_getElem? (i := 65) rfl)) rfl)
theorem ko_X11_270 : Cond.constantLong RX11 270 (-3) ∈ wl := (wt (mt_4 (List.mem_of_getElem? (i := 138) rfl)) rfl)
theorem ko_L_97 : Cond.constantLong RL 97 (4294967295) ∈ wl := (wt (mt_9 (List.mem_of_getElem? (i := 88) rfl)) rfl)
theorem ko_X12_196 : Cond.constantLong RX12 196 (48) ∈ wl := (wt (mt_7 (List.mem_of_getElem? (i := 147) rfl)) rfl)
theorem ko_X12_198 : Cond.constantLong RX12 198 (57) ∈ wl := (wt (mt_7 (List.mem_of_getElem? (i := 148) rfl)) rfl)
theorem ko_X12_226 : Cond.constantLong RX12 226 (2) ∈ wl := (wt (mt_7 (List.mem_of_getElem? (i := 165) rfl)) rfl)
theorem ko_X12_228 : Cond.constantLong RX12 228 (20) ∈ wl := (wt (mt_7 (List.mem_of_getElem? (i := 166) rfl)) rfl)
theorem ko_X12_230 : Cond.constantLong RX12 230 (3) ∈ wl := (wt (mt_7 (List.mem_of_getElem? (i := 167) rfl)) rfl)
theorem ko_X12_232 : Cond.constantLong RX12 232 (99) ∈ wl := (wt (mt_7 (List.mem_of_getElem? (i := 168) rfl)) rfl)
theorem ko_X12_317 : Cond.constantLong RX12 317 (27720) ∈ wl := (wt (mt_8 (List.mem_of_getElem? (i := 18) rfl)) rfl)
theorem ko_X12_335 : Cond.constantLong RX12 335 (100) ∈ wl := (wt (mt_8 (List.mem_of_getElem? (i := 34) rfl)) rfl)
theorem ko_X12_366 : Cond.constantLong RX12 366 (-1) ∈ wl := (wt (mt_8 (List.mem_of_getElem? (i := 48) rfl)) rfl)
theorem ko_X12_375 : Cond.constantLong RX12 375 (-2) ∈ wl := (wt (mt_8 (List.mem_of_getElem? (i := 65) rfl)) rfl)
theorem ko_X12_407 : Cond.constantLong RX12 407 (-3) ∈ wl := (wt (mt_8 (List.mem_of_getElem? (i := 131) rfl)) rfl)
theorem ko_X12_451 : Cond.constantLong RX12 451 (200) ∈ wl := (wt (mt_8 (List.mem_of_getElem? (i := 195) rfl)) rfl)
theorem ko_J13_314 : Cond.constantLong RJ13 314 (6148914691236517205) ∈ wl := (wt (mt_3 (List.mem_of_getElem? (i := 235) rfl)) rfl)
theorem ko_J13_316 : Cond.constantLong RJ13 316 (3689348814741910323) ∈ wl := (wt (mt_3 (List.mem_of_getElem? (i := 236) rfl)) rfl)
theorem ko_J13_318 : Cond.constantLong RJ13 318 (1085102592571150095) ∈ wl := (wt (mt_3 (List.mem_of_getElem? (i := 237) rfl)) rfl)
theorem co_X0_3 : Cond.methodLink RX0 3 objectInit ∈ wl := (wt (mt_1 (List.mem_of_getElem? (i := 37) rfl)) rfl)
theorem co_X0_47 : VOk RX0 47 mX0_hasLamp 1 := ⟨gic (wt (mt_3 (List.mem_of_getElem? (i := 197) rfl)) rfl) rfl (gic wv_X0_hasLamp rfl (gic wz_X0_hasLamp rfl (gic wn_X0 rfl (gi1 wc_X0_hasLamp rfl)))), wd_X0_hasLamp⟩
theorem co_X0_51 : VOk RX0 51 mX0_rewire 0 := ⟨gic (wt (mt_3 (List.mem_of_getElem? (i := 145) rfl)) rfl) rfl (gic wv_X0_rewire rfl (gic wz_X0_rewire rfl (gic wn_X0 rfl (gi1 wc_X0_rewire rfl)))), wd_X0_rewire⟩
theorem co_X0_54 : VOk RX0 54 mX0_hasWire 1 := ⟨gic (wt (mt_3 (List.mem_of_getElem? (i := 161) rfl)) rfl) rfl (gic wv_X0_hasWire rfl (gic wz_X0_hasWire rfl (gic wn_X0 rfl (gi1 wc_X0_hasWire rfl)))), wd_X0_hasWire⟩
theorem co_X0_57 : SOk RX0 57 mJ7_fill_d0a16 2 := ⟨gic (wt (mt_3 (List.mem_of_getElem? (i := 149) rfl)) rfl) rfl (gic ws_J7_fill_d0a16 rfl (gic wn_J7 rfl (gi1 wc_J7_fill_d0a16 rfl))), wd_J7_fill_d0a16⟩
theorem co_X1_106 : VOk RX1 106 mX1_follow 4 := ⟨gic (wt (mt_4 (List.mem_of_getElem? (i := 6) rfl)) rfl) rfl (gic wv_X1_follow rfl (gic wz_X1_follow rfl (gic wn_X1 rfl (gi1 wc_X1_follow rfl)))), wd_X1_follow⟩
theorem co_X1_110 : VOk RX1 110 mX1_bright 0 := ⟨gic (wt (mt_4 (List.mem_of_getElem? (i := 24) rfl)) rfl) rfl (gic wv_X1_bright rfl (gic wz_X1_bright rfl (gic wn_X1 rfl (gi1 wc_X1_bright rfl)))), wd_X1_bright⟩
theorem co_X1_116 : SOk RX1 116 mJ13_bitCount_95d88 1 := ⟨gic (wt (mt_3 (List.mem_of_getElem? (i := 232) rfl)) rfl) rfl (gic ws_J13_bitCount_95d88 rfl (gic wn_J13 rfl (gi1 wc_J13_bitCount_95d88 rfl))), wd_J13_bitCount_95d88⟩
theorem co_X1_122 : SOk RX1 122 mJ13_numberOfTrailingZeros_95d88 1 := ⟨gic (wt (mt_3 (List.mem_of_getElem? (i := 238) rfl)) rfl) rfl (gic ws_J13_numberOfTrailingZeros_95d88 rfl (gic wn_J13 rfl (gi1 wc_J13_numberOfTrailingZeros_95d88 rfl))), wd_J13_numberOfTrailingZeros_95d88⟩
theorem co_X1_125 : SOk RX1 125 mJ7_fill_d0a16 2 := ⟨gic (wt (mt_4 (List.mem_of_getElem? (i := 5) rfl)) rfl) rfl (gic ws_J7_fill_d0a16 rfl (gic wn_J7 rfl (gi1 wc_J7_fill_d0a16 rfl))), wd_J7_fill_d0a16⟩
theorem co_X1_140 : VOk RX1 140 mX1_goalOf 1 := ⟨gic (wt (mt_4 (List.mem_of_getElem? (i := 10) rfl)) rfl) rfl (gic wv_X1_goalOf rfl (gic wz_X1_goalOf rfl (gic wn_X1 rfl (gi1 wc_X1_goalOf rfl)))), wd_X1_goalOf⟩
theorem co_X1_144 : VOk RX1 144 mX1_carry 4 := ⟨gic (wt (mt_4 (List.mem_of_getElem? (i := 14) rfl)) rfl) rfl (gic wv_X1_carry rfl (gic wz_X1_carry rfl (gic wn_X1 rfl (gi1 wc_X1_carry rfl)))), wd_X1_carry⟩
theorem co_X1_150 : VOk RX1 150 mX1_noteWay 2 := ⟨gic (wt (mt_4 (List.mem_of_getElem? (i := 20) rfl)) rfl) rfl (gic wv_X1_noteWay rfl (gic wz_X1_noteWay rfl (gic wn_X1 rfl (gi1 wc_X1_noteWay rfl)))), wd_X1_noteWay⟩
theorem co_X1_3 : Cond.methodLink RX1 3 objectInit ∈ wl := (wt (mt_1 (List.mem_of_getElem? (i := 183) rfl)) rfl)
theorem co_X1_51 : VOk RX1 51 mX1_lay 2 := ⟨gic (wt (mt_3 (List.mem_of_getElem? (i := 217) rfl)) rfl) rfl (gic wv_X1_lay rfl (gic wz_X1_lay rfl (gic wn_X1 rfl (gi1 wc_X1_lay rfl)))), wd_X1_lay⟩
theorem co_X1_55 : VOk RX1 55 mX1_run 0 := ⟨gic (wt (mt_3 (List.mem_of_getElem? (i := 224) rfl)) rfl) rfl (gic wv_X1_run rfl (gic wz_X1_run rfl (gic wn_X1 rfl (gi1 wc_X1_run rfl)))), wd_X1_run⟩
theorem co_X1_78 : Cond.methodLink RX1 78 arraycopyName ∈ wl := (wt (mt_3 (List.mem_of_getElem? (i := 221) rfl)) rfl)
theorem co_X1_94 : VOk RX1 94 mX1_putOut 0 := ⟨gic (wt (mt_3 (List.mem_of_getElem? (i := 228) rfl)) rfl) rfl (gic wv_X1_putOut rfl (gic wz_X1_putOut rfl (gic wn_X1 rfl (gi1 wc_X1_putOut rfl)))), wd_X1_putOut⟩
theorem co_X2_3 : Cond.methodLink RX2 3 objectInit ∈ wl := (wt (mt_3 (List.mem_of_getElem? (i := 9) rfl)) rfl)
theorem co_X2_31 : INOk RX2 31 mX3_init 0 := ⟨"NinetyLamps", gi1 wc_X3_init rfl, wn_X3, (wt (mt_3 (List.mem_of_getElem? (i := 11) rfl)) rfl), wv_X3_init, rfl, rfl, wd_X3_init⟩
theorem co_X2_40 : Cond.methodLink RX2 40 arraycopyName ∈ wl := (wt (mt_6 (List.mem_of_getElem? (i := 14) rfl)) rfl)
theorem co_X2_48 : VOk RX2 48 mX3_copyFrom 1 := ⟨gic (wt (mt_6 (List.mem_of_getElem? (i := 15) rfl)) rfl) rfl (gic wv_X3_copyFrom rfl (gic wz_X3_copyFrom rfl (gic wn_X3 rfl (gi1 wc_X3_copyFrom rfl)))), wd_X3_copyFrom⟩
theorem co_X2_52 : VOk RX2 52 mX0_rewire 0 := ⟨gic (wt (mt_6 (List.mem_of_getElem? (i := 28) rfl)) rfl) rfl (gic wv_X0_rewire rfl (gic wz_X0_rewire rfl (gic wn_X0 rfl (gi1 wc_X0_rewire rfl)))), wd_X0_rewire⟩
theorem co_X3_3 : Cond.methodLink RX3 3 objectInit ∈ wl := (wt (mt_2 (List.mem_of_getElem? (i := 17) rfl)) rfl)
theorem co_X3_35 : SOk RX3 35 mJ7_fill_d0a16 2 := ⟨gic (wt (mt_3 (List.mem_of_getElem? (i := 156) rfl)) rfl) rfl (gic ws_J7_fill_d0a16 rfl (gic wn_J7 rfl (gi1 wc_J7_fill_d0a16 rfl))), wd_J7_fill_d0a16⟩
theorem co_X3_41 : Cond.methodLink RX3 41 arraycopyName ∈ wl := (wt (mt_6 (List.mem_of_getElem? (i := 19) rfl)) rfl)
theorem co_X4_100 : SOk RX4 100 mJ9_min_7cf53 2 := ⟨gic (wt (mt_4 (List.mem_of_getElem? (i := 204) rfl)) rfl) rfl (gic ws_J9_min_7cf53 rfl (gic wn_J9 rfl (gi1 wc_J9_min_7cf53 rfl))), wd_J9_min_7cf53⟩
theorem co_X4_105 : VOk RX4 105 mX4_findNear 0 := ⟨gic (wt (mt_4 (List.mem_of_getElem? (i := 221) rfl)) rfl) rfl (gic wv_X4_findNear rfl (gic wz_X4_findNear rfl (gic wn_X4 rfl (gi1 wc_X4_findNear rfl)))), wd_X4_findNear⟩
theorem co_X4_108 : SOk RX4 108 mJ6_bitCount_0f7a4 1 := ⟨gic (wt (mt_4 (List.mem_of_getElem? (i := 226) rfl)) rfl) rfl (gic ws_J6_bitCount_0f7a4 rfl (gic wn_J6 rfl (gi1 wc_J6_bitCount_0f7a4 rfl))), wd_J6_bitCount_0f7a4⟩
theorem co_X4_114 : VOk RX4 114 mX4_isApart 1 := ⟨gic (wt (mt_4 (List.mem_of_getElem? (i := 232) rfl)) rfl) rfl (gic wv_X4_isApart rfl (gic wz_X4_isApart rfl (gic wn_X4 rfl (gi1 wc_X4_isApart rfl)))), wd_X4_isApart⟩
theorem co_X4_118 : SOk RX4 118 mJ7_fill_53178 2 := ⟨gic (wt (mt_4 (List.mem_of_getElem? (i := 225) rfl)) rfl) rfl (gic ws_J7_fill_53178 rfl (gic wn_J7 rfl (gi1 wc_J7_fill_53178 rfl))), wd_J7_fill_53178⟩
theorem co_X4_124 : VOk RX4 124 mX4_tryOrder 4 := ⟨gic (wt (mt_5 (List.mem_of_getElem? (i := 9) rfl)) rfl) rfl (gic wv_X4_tryOrder rfl (gic wz_X4_tryOrder rfl (gic wn_X4 rfl (gi1 wc_X4_tryOrder rfl)))), wd_X4_tryOrder⟩
theorem co_X4_128 : Cond.methodLink RX4 128 arraycopyName ∈ wl := (wt (mt_5 (List.mem_of_getElem? (i := 13) rfl)) rfl)
theorem co_X4_134 : VOk RX4 134 mX4_differing 2 := ⟨gic (wt (mt_5 (List.mem_of_getElem? (i := 14) rfl)) rfl) rfl (gic wv_X4_differing rfl (gic wz_X4_differing rfl (gic wn_X4 rfl (gi1 wc_X4_differing rfl)))), wd_X4_differing⟩
theorem co_X4_143 : SOk RX4 143 mJ7_fill_d0a16 2 := ⟨gic (wt (mt_5 (List.mem_of_getElem? (i := 26) rfl)) rfl) rfl (gic ws_J7_fill_d0a16 rfl (gic wn_J7 rfl (gi1 wc_J7_fill_d0a16 rfl))), wd_J7_fill_d0a16⟩
theorem co_X4_146 : VOk RX4 146 mX4_takeLights 0 := ⟨gic (wt (mt_5 (List.mem_of_getElem? (i := 27) rfl)) rfl) rfl (gic wv_X4_takeLights rfl (gic wz_X4_takeLights rfl (gic wn_X4 rfl (gi1 wc_X4_takeLights rfl)))), wd_X4_takeLights⟩
theorem co_X4_149 : VOk RX4 149 mX4_dimmest 0 := ⟨gic (wt (mt_5 (List.mem_of_getElem? (i := 32) rfl)) rfl) rfl (gic wv_X4_dimmest rfl (gic wz_X4_dimmest rfl (gic wn_X4 rfl (gi1 wc_X4_dimmest rfl)))), wd_X4_dimmest⟩
theorem co_X4_153 : VOk RX4 153 mX4_brightestTurn 1 := ⟨gic (wt (mt_5 (List.mem_of_getElem? (i := 36) rfl)) rfl) rfl (gic wv_X4_brightestTurn rfl (gic wz_X4_brightestTurn rfl (gic wn_X4 rfl (gi1 wc_X4_brightestTurn rfl)))), wd_X4_brightestTurn⟩
theorem co_X4_156 : VOk RX4 156 mX1_glowing 2 := ⟨gic (wt (mt_5 (List.mem_of_getElem? (i := 31) rfl)) rfl) rfl (gic wv_X1_glowing rfl (gic wz_X1_glowing rfl (gic wn_X1 rfl (gi1 wc_X1_glowing rfl)))), wd_X1_glowing⟩
theorem co_X4_3 : Cond.methodLink RX4 3 objectInit ∈ wl := (wt (mt_2 (List.mem_of_getElem? (i := 104) rfl)) rfl)
theorem co_X4_63 : VOk RX4 63 mX8_isTurn 2 := ⟨gic (wt (mt_4 (List.mem_of_getElem? (i := 174) rfl)) rfl) rfl (gic wv_X8_isTurn rfl (gic wz_X8_isTurn rfl (gic wn_X8 rfl (gi1 wc_X8_isTurn rfl)))), wd_X8_isTurn⟩
theorem co_X4_70 : VOk RX4 70 mX4_numbered 1 := ⟨gic (wt (mt_4 (List.mem_of_getElem? (i := 178) rfl)) rfl) rfl (gic wv_X4_numbered rfl (gic wz_X4_numbered rfl (gic wn_X4 rfl (gi1 wc_X4_numbered rfl)))), wd_X4_numbered⟩
theorem co_X4_74 : VOk RX4 74 mX4_findWidest 0 := ⟨gic (wt (mt_4 (List.mem_of_getElem? (i := 186) rfl)) rfl) rfl (gic wv_X4_findWidest rfl (gic wz_X4_findWidest rfl (gic wn_X4 rfl (gi1 wc_X4_findWidest rfl)))), wd_X4_findWidest⟩
theorem co_X4_77 : SOk RX4 77 mJ7_fill_fda19 4 := ⟨gic (wt (mt_4 (List.mem_of_getElem? (i := 194) rfl)) rfl) rfl (gic ws_J7_fill_fda19 rfl (gic wn_J7 rfl (gi1 wc_J7_fill_fda19 rfl))), wd_J7_fill_fda19⟩
theorem co_X4_83 : VOk RX4 83 mX4_fewestFor 2 := ⟨gic (wt (mt_4 (List.mem_of_getElem? (i := 200) rfl)) rfl) rfl (gic wv_X4_fewestFor rfl (gic wz_X4_fewestFor rfl (gic wn_X4 rfl (gi1 wc_X4_fewestFor rfl)))), wd_X4_fewestFor⟩
theorem co_X4_90 : VOk RX4 90 mX4_choose 1 := ⟨gic (wt (mt_4 (List.mem_of_getElem? (i := 205) rfl)) rfl) rfl (gic wv_X4_choose rfl (gic wz_X4_choose rfl (gic wn_X4 rfl (gi1 wc_X4_choose rfl)))), wd_X4_choose⟩
theorem co_X4_97 : VOk RX4 97 mX4_addWidest 1 := ⟨gic (wt (mt_4 (List.mem_of_getElem? (i := 190) rfl)) rfl) rfl (gic wv_X4_addWidest rfl (gic wz_X4_addWidest rfl (gic wn_X4 rfl (gi1 wc_X4_addWidest rfl)))), wd_X4_addWidest⟩
theorem co_X5_101 : VOk RX5 101 mX5_depthAt 2 := ⟨gic (wt (mt_5 (List.mem_of_getElem? (i := 219) rfl)) rfl) rfl (gic wv_X5_depthAt rfl (gic wz_X5_depthAt rfl (gic wn_X5 rfl (gi1 wc_X5_depthAt rfl)))), wd_X5_depthAt⟩
theorem co_X5_104 : SOk RX5 104 mJ9_max_7cf53 2 := ⟨gic (wt (mt_5 (List.mem_of_getElem? (i := 223) rfl)) rfl) rfl (gic ws_J9_max_7cf53 rfl (gic wn_J9 rfl (gi1 wc_J9_max_7cf53 rfl))), wd_J9_max_7cf53⟩
theorem co_X5_109 : SOk RX5 109 mJ9_min_7cf53 2 := ⟨gic (wt (mt_5 (List.mem_of_getElem? (i := 224) rfl)) rfl) rfl (gic ws_J9_min_7cf53 rfl (gic wn_J9 rfl (gi1 wc_J9_min_7cf53 rfl))), wd_J9_min_7cf53⟩
theorem co_X5_112 : VOk RX5 112 mX5_worstBehind 3 := ⟨gic (wt (mt_5 (List.mem_of_getElem? (i := 229) rfl)) rfl) rfl (gic wv_X5_worstBehind rfl (gic wz_X5_worstBehind rfl (gic wn_X5 rfl (gi1 wc_X5_worstBehind rfl)))), wd_X5_worstBehind⟩
theorem co_X5_3 : Cond.methodLink RX5 3 objectInit ∈ wl := (wt (mt_2 (List.mem_of_getElem? (i := 203) rfl)) rfl)
theorem co_X5_59 : VOk RX5 59 mX5_findGroup 1 := ⟨gic (wt (mt_5 (List.mem_of_getElem? (i := 189) rfl)) rfl) rfl (gic wv_X5_findGroup rfl (gic wz_X5_findGroup rfl (gic wn_X5 rfl (gi1 wc_X5_findGroup rfl)))), wd_X5_findGroup⟩
theorem co_X5_63 : SOk RX5 63 mX5_place 2 := ⟨gic (wt (mt_5 (List.mem_of_getElem? (i := 198) rfl)) rfl) rfl (gic ws_X5_place rfl (gic wn_X5 rfl (gi1 wc_X5_place rfl))), wd_X5_place⟩
theorem co_X5_67 : VOk RX5 67 mX5_partCells 1 := ⟨gic (wt (mt_5 (List.mem_of_getElem? (i := 201) rfl)) rfl) rfl (gic wv_X5_partCells rfl (gic wz_X5_partCells rfl (gic wn_X5 rfl (gi1 wc_X5_partCells rfl)))), wd_X5_partCells⟩
theorem co_X5_71 : VOk RX5 71 mX5_reckonDepths 1 := ⟨gic (wt (mt_5 (List.mem_of_getElem? (i := 210) rfl)) rfl) rfl (gic wv_X5_reckonDepths rfl (gic wz_X5_reckonDepths rfl (gic wn_X5 rfl (gi1 wc_X5_reckonDepths rfl)))), wd_X5_reckonDepths⟩
theorem co_X5_74 : VOk RX5 74 mX7_glowWith 3 := ⟨gic (wt (mt_5 (List.mem_of_getElem? (i := 193) rfl)) rfl) rfl (gic wv_X7_glowWith rfl (gic wz_X7_glowWith rfl (gic wn_X7 rfl (gi1 wc_X7_glowWith rfl)))), wd_X7_glowWith⟩
theorem co_X5_78 : VOk RX5 78 mX5_isSameRow 2 := ⟨gic (wt (mt_5 (List.mem_of_getElem? (i := 194) rfl)) rfl) rfl (gic wv_X5_isSameRow rfl (gic wz_X5_isSameRow rfl (gic wn_X5 rfl (gi1 wc_X5_isSameRow rfl)))), wd_X5_isSameRow⟩
theorem co_X5_82 : SOk RX5 82 mJ6_numberOfTrailingZeros_0f7a4 1 := ⟨gic (wt (mt_5 (List.mem_of_getElem? (i := 205) rfl)) rfl) rfl (gic ws_J6_numberOfTrailingZeros_0f7a4 rfl (gic wn_J6 rfl (gi1 wc_J6_numberOfTrailingZeros_0f7a4 rfl))), wd_J6_numberOfTrailingZeros_0f7a4⟩
theorem co_X5_87 : VOk RX5 87 mX5_isOneCell 4 := ⟨gic (wt (mt_5 (List.mem_of_getElem? (i := 206) rfl)) rfl) rfl (gic wv_X5_isOneCell rfl (gic wz_X5_isOneCell rfl (gic wn_X5 rfl (gi1 wc_X5_isOneCell rfl)))), wd_X5_isOneCell⟩
theorem co_X5_91 : SOk RX5 91 mJ7_fill_53178 2 := ⟨gic (wt (mt_5 (List.mem_of_getElem? (i := 214) rfl)) rfl) rfl (gic ws_J7_fill_53178 rfl (gic wn_J7 rfl (gi1 wc_J7_fill_53178 rfl))), wd_J7_fill_53178⟩
theorem co_X5_97 : VOk RX5 97 mX5_tryTest 2 := ⟨gic (wt (mt_5 (List.mem_of_getElem? (i := 215) rfl)) rfl) rfl (gic wv_X5_tryTest rfl (gic wz_X5_tryTest rfl (gic wn_X5 rfl (gi1 wc_X5_tryTest rfl)))), wd_X5_tryTest⟩
theorem co_X6_100 : VOk RX6 100 mX6_isDigit 0 := ⟨gic (wt (mt_3 (List.mem_of_getElem? (i := 105) rfl)) rfl) rfl (gic wv_X6_isDigit rfl (gic wz_X6_isDigit rfl (gic wn_X6 rfl (gi1 wc_X6_isDigit rfl)))), wd_X6_isDigit⟩
theorem co_X6_3 : Cond.methodLink RX6 3 objectInit ∈ wl := (wt (mt_1 (List.mem_of_getElem? (i := 123) rfl)) rfl)
theorem co_X6_49 : SOk RX6 49 mJ9_min_7cf53 2 := ⟨gic (wt (mt_3 (List.mem_of_getElem? (i := 86) rfl)) rfl) rfl (gic ws_J9_min_7cf53 rfl (gic wn_J9 rfl (gi1 wc_J9_min_7cf53 rfl))), wd_J9_min_7cf53⟩
theorem co_X6_58 : VOk RX6 58 mX6_readLine 0 := ⟨gic (wt (mt_3 (List.mem_of_getElem? (i := 89) rfl)) rfl) rfl (gic wv_X6_readLine rfl (gic wz_X6_readLine rfl (gic wn_X6 rfl (gi1 wc_X6_readLine rfl)))), wd_X6_readLine⟩
theorem co_X6_62 : VOk RX6 62 mX6_goesOn 0 := ⟨gic (wt (mt_3 (List.mem_of_getElem? (i := 133) rfl)) rfl) rfl (gic wv_X6_goesOn rfl (gic wz_X6_goesOn rfl (gic wn_X6 rfl (gi1 wc_X6_goesOn rfl)))), wd_X6_goesOn⟩
theorem co_X6_65 : VOk RX6 65 mX6_take 1 := ⟨gic (wt (mt_3 (List.mem_of_getElem? (i := 125) rfl)) rfl) rfl (gic wv_X6_take rfl (gic wz_X6_take rfl (gic wn_X6 rfl (gi1 wc_X6_take rfl)))), wd_X6_take⟩
theorem co_X6_69 : VOk RX6 69 mX6_isAt 1 := ⟨gic (wt (mt_3 (List.mem_of_getElem? (i := 93) rfl)) rfl) rfl (gic wv_X6_isAt rfl (gic wz_X6_isAt rfl (gic wn_X6 rfl (gi1 wc_X6_isAt rfl)))), wd_X6_isAt⟩
theorem co_X6_72 : VOk RX6 72 mX6_readWidth 0 := ⟨gic (wt (mt_3 (List.mem_of_getElem? (i := 97) rfl)) rfl) rfl (gic wv_X6_readWidth rfl (gic wz_X6_readWidth rfl (gic wn_X6 rfl (gi1 wc_X6_readWidth rfl)))), wd_X6_readWidth⟩
theorem co_X6_75 : VOk RX6 75 mX6_readOhms 0 := ⟨gic (wt (mt_3 (List.mem_of_getElem? (i := 117) rfl)) rfl) rfl (gic wv_X6_readOhms rfl (gic wz_X6_readOhms rfl (gic wn_X6 rfl (gi1 wc_X6_readOhms rfl)))), wd_X6_readOhms⟩
theorem co_X6_78 : VOk RX6 78 mX6_readLamp 0 := ⟨gic (wt (mt_3 (List.mem_of_getElem? (i := 129) rfl)) rfl) rfl (gic wv_X6_readLamp rfl (gic wz_X6_readLamp rfl (gic wn_X6 rfl (gi1 wc_X6_readLamp rfl)))), wd_X6_readLamp⟩
theorem co_X6_81 : VOk RX6 81 mX6_takeNumber 2 := ⟨gic (wt (mt_3 (List.mem_of_getElem? (i := 101) rfl)) rfl) rfl (gic wv_X6_takeNumber rfl (gic wz_X6_takeNumber rfl (gic wn_X6 rfl (gi1 wc_X6_takeNumber rfl)))), wd_X6_takeNumber⟩
theorem co_X6_84 : VOk RX6 84 mX6_note 4 := ⟨gic (wt (mt_3 (List.mem_of_getElem? (i := 113) rfl)) rfl) rfl (gic wv_X6_note rfl (gic wz_X6_note rfl (gic wn_X6 rfl (gi1 wc_X6_note rfl)))), wd_X6_note⟩
theorem co_X6_88 : VOk RX6 88 mX6_takeWire 1 := ⟨gic (wt (mt_3 (List.mem_of_getElem? (i := 121) rfl)) rfl) rfl (gic wv_X6_takeWire rfl (gic wz_X6_takeWire rfl (gic wn_X6 rfl (gi1 wc_X6_takeWire rfl)))), wd_X6_takeWire⟩
theorem co_X6_92 : VOk RX6 92 mX6_fail 1 := ⟨gic (wt (mt_3 (List.mem_of_getElem? (i := 109) rfl)) rfl) rfl (gic wv_X6_fail rfl (gic wz_X6_fail rfl (gic wn_X6 rfl (gi1 wc_X6_fail rfl)))), wd_X6_fail⟩
theorem co_X7_109 : VOk RX7 109 mX7_glowWith 3 := ⟨gic (wt (mt_5 (List.mem_of_getElem? (i := 122) rfl)) rfl) rfl (gic wv_X7_glowWith rfl (gic wz_X7_glowWith rfl (gic wn_X7 rfl (gi1 wc_X7_glowWith rfl)))), wd_X7_glowWith⟩
theorem co_X7_115 : VOk RX7 115 mX7_glowBy 2 := ⟨gic (wt (mt_5 (List.mem_of_getElem? (i := 118) rfl)) rfl) rfl (gic wv_X7_glowBy rfl (gic wz_X7_glowBy rfl (gic wn_X7 rfl (gi1 wc_X7_glowBy rfl)))), wd_X7_glowBy⟩
theorem co_X7_133 : VOk RX7 133 mX7_firstAgainst 1 := ⟨gic (wt (mt_5 (List.mem_of_getElem? (i := 151) rfl)) rfl) rfl (gic wv_X7_firstAgainst rfl (gic wz_X7_firstAgainst rfl (gic wn_X7 rfl (gi1 wc_X7_firstAgainst rfl)))), wd_X7_firstAgainst⟩
theorem co_X7_136 : VOk RX7 136 mX7_joinGroup 1 := ⟨gic (wt (mt_5 (List.mem_of_getElem? (i := 168) rfl)) rfl) rfl (gic wv_X7_joinGroup rfl (gic wz_X7_joinGroup rfl (gic wn_X7 rfl (gi1 wc_X7_joinGroup rfl)))), wd_X7_joinGroup⟩
theorem co_X7_140 : SOk RX7 140 mJ9_max_7cf53 2 := ⟨gic (wt (mt_5 (List.mem_of_getElem? (i := 172) rfl)) rfl) rfl (gic ws_J9_max_7cf53 rfl (gic wn_J9 rfl (gi1 wc_J9_max_7cf53 rfl))), wd_J9_max_7cf53⟩
theorem co_X7_3 : Cond.methodLink RX7 3 objectInit ∈ wl := (wt (mt_2 (List.mem_of_getElem? (i := 165) rfl)) rfl)
theorem co_X7_53 : VOk RX7 53 mX7_firstTouch 0 := ⟨gic (wt (mt_5 (List.mem_of_getElem? (i := 60) rfl)) rfl) rfl (gic wv_X7_firstTouch rfl (gic wz_X7_firstTouch rfl (gic wn_X7 rfl (gi1 wc_X7_firstTouch rfl)))), wd_X7_firstTouch⟩
theorem co_X7_57 : VOk RX7 57 mX7_firstTurned 0 := ⟨gic (wt (mt_5 (List.mem_of_getElem? (i := 65) rfl)) rfl) rfl (gic wv_X7_firstTurned rfl (gic wz_X7_firstTurned rfl (gic wn_X7 rfl (gi1 wc_X7_firstTurned rfl)))), wd_X7_firstTurned⟩
theorem co_X7_63 : VOk RX7 63 mX7_size 0 := ⟨gic (wt (mt_5 (List.mem_of_getElem? (i := 74) rfl)) rfl) rfl (gic wv_X7_size rfl (gic wz_X7_size rfl (gic wn_X7 rfl (gi1 wc_X7_size rfl)))), wd_X7_size⟩
theorem co_X7_66 : VOk RX7 66 mX7_firstOfPair 1 := ⟨gic (wt (mt_5 (List.mem_of_getElem? (i := 88) rfl)) rfl) rfl (gic wv_X7_firstOfPair rfl (gic wz_X7_firstOfPair rfl (gic wn_X7 rfl (gi1 wc_X7_firstOfPair rfl)))), wd_X7_firstOfPair⟩
theorem co_X7_70 : VOk RX7 70 mX7_kindOf 1 := ⟨gic (wt (mt_5 (List.mem_of_getElem? (i := 80) rfl)) rfl) rfl (gic wv_X7_kindOf rfl (gic wz_X7_kindOf rfl (gic wn_X7 rfl (gi1 wc_X7_kindOf rfl)))), wd_X7_kindOf⟩
theorem co_X7_73 : VOk RX7 73 mX7_secondOfPair 2 := ⟨gic (wt (mt_5 (List.mem_of_getElem? (i := 96) rfl)) rfl) rfl (gic wv_X7_secondOfPair rfl (gic wz_X7_secondOfPair rfl (gic wn_X7 rfl (gi1 wc_X7_secondOfPair rfl)))), wd_X7_secondOfPair⟩
theorem co_X7_77 : VOk RX7 77 mX1_lay 2 := ⟨gic (wt (mt_5 (List.mem_of_getElem? (i := 79) rfl)) rfl) rfl (gic wv_X1_lay rfl (gic wz_X1_lay rfl (gic wn_X1 rfl (gi1 wc_X1_lay rfl)))), wd_X1_lay⟩
theorem co_X7_83 : VOk RX7 83 mX7_firstOf 1 := ⟨gic (wt (mt_5 (List.mem_of_getElem? (i := 84) rfl)) rfl) rfl (gic wv_X7_firstOf rfl (gic wz_X7_firstOf rfl (gic wn_X7 rfl (gi1 wc_X7_firstOf rfl)))), wd_X7_firstOf⟩
theorem co_X7_86 : VOk RX7 86 mX1_cut 1 := ⟨gic (wt (mt_5 (List.mem_of_getElem? (i := 92) rfl)) rfl) rfl (gic wv_X1_cut rfl (gic wz_X1_cut rfl (gic wn_X1 rfl (gi1 wc_X1_cut rfl)))), wd_X1_cut⟩
theorem co_X7_90 : VOk RX7 90 mX1_join 2 := ⟨gic (wt (mt_5 (List.mem_of_getElem? (i := 100) rfl)) rfl) rfl (gic wv_X1_join rfl (gic wz_X1_join rfl (gic wn_X1 rfl (gi1 wc_X1_join rfl)))), wd_X1_join⟩
theorem co_X7_93 : VOk RX7 93 mX1_turn 1 := ⟨gic (wt (mt_5 (List.mem_of_getElem? (i := 105) rfl)) rfl) rfl (gic wv_X1_turn rfl (gic wz_X1_turn rfl (gic wn_X1 rfl (gi1 wc_X1_turn rfl)))), wd_X1_turn⟩
theorem co_X7_96 : VOk RX7 96 mX1_run 0 := ⟨gic (wt (mt_5 (List.mem_of_getElem? (i := 109) rfl)) rfl) rfl (gic wv_X1_run rfl (gic wz_X1_run rfl (gic wn_X1 rfl (gi1 wc_X1_run rfl)))), wd_X1_run⟩
theorem co_X8_3 : Cond.methodLink RX8 3 objectInit ∈ wl := (wt (mt_2 (List.mem_of_getElem? (i := 53) rfl)) rfl)
theorem co_X8_50 : SNOk RX8 50 mX11_settingsOf 1 := ⟨"NinetyLamps", gi1 wc_X11_settingsOf rfl, wn_X11, (wt (mt_4 (List.mem_of_getElem? (i := 95) rfl)) rfl), ws_X11_settingsOf, wd_X11_settingsOf⟩
theorem co_X8_54 : SOk RX8 54 mJ9_min_7cf53 2 := ⟨gic (wt (mt_4 (List.mem_of_getElem? (i := 98) rfl)) rfl) rfl (gic ws_J9_min_7cf53 rfl (gic wn_J9 rfl (gi1 wc_J9_min_7cf53 rfl))), wd_J9_min_7cf53⟩
theorem co_X8_60 : SNOk RX8 60 mX11_wiresThatAre 3 := ⟨"NinetyLamps", gi1 wc_X11_wiresThatAre rfl, wn_X11, (wt (mt_4 (List.mem_of_getElem? (i := 99) rfl)) rfl), ws_X11_wiresThatAre, wd_X11_wiresThatAre⟩
theorem co_X8_64 : VOk RX8 64 mX1_lay 2 := ⟨gic (wt (mt_4 (List.mem_of_getElem? (i := 102) rfl)) rfl) rfl (gic wv_X1_lay rfl (gic wz_X1_lay rfl (gic wn_X1 rfl (gi1 wc_X1_lay rfl)))), wd_X1_lay⟩
theorem co_X8_70 : VOk RX8 70 mX1_run 0 := ⟨gic (wt (mt_4 (List.mem_of_getElem? (i := 103) rfl)) rfl) rfl (gic wv_X1_run rfl (gic wz_X1_run rfl (gic wn_X1 rfl (gi1 wc_X1_run rfl)))), wd_X1_run⟩
theorem co_X8_74 : VOk RX8 74 mX0_asked 2 := ⟨gic (wt (mt_4 (List.mem_of_getElem? (i := 104) rfl)) rfl) rfl (gic wv_X0_asked rfl (gic wz_X0_asked rfl (gic wn_X0 rfl (gi1 wc_X0_asked rfl)))), wd_X0_asked⟩
theorem co_X8_80 : VOk RX8 80 mX8_enter 1 := ⟨gic (wt (mt_4 (List.mem_of_getElem? (i := 125) rfl)) rfl) rfl (gic wv_X8_enter rfl (gic wz_X8_enter rfl (gic wn_X8 rfl (gi1 wc_X8_enter rfl)))), wd_X8_enter⟩
theorem co_X9_1 : Cond.methodLink RX9 1 objectInit ∈ wl := (wt (mt_1 (List.mem_of_getElem? (i := 106) rfl)) rfl)
theorem co_X10_1 : Cond.methodLink RX10 1 objectInit ∈ wl := (wt (mt_1 (List.mem_of_getElem? (i := 168) rfl)) rfl)
theorem co_X11_1 : Cond.methodLink RX11 1 objectInit ∈ wl := (wt (mt_1 (List.mem_of_getElem? (i := 29) rfl)) rfl)
theorem co_X11_112 : VOk RX11 112 mX6_read 2 := ⟨gic (wt (mt_3 (List.mem_of_getElem? (i := 82) rfl)) rfl) rfl (gic wv_X6_read rfl (gic wz_X6_read rfl (gic wn_X6 rfl (gi1 wc_X6_read rfl)))), wd_X6_read⟩
theorem co_X11_119 : VOk RX11 119 mX11_takeLine 1 := ⟨gic (wt (mt_3 (List.mem_of_getElem? (i := 137) rfl)) rfl) rfl (gic wv_X11_takeLine rfl (gic wz_X11_takeLine rfl (gic wn_X11 rfl (gi1 wc_X11_takeLine rfl)))), wd_X11_takeLine⟩
theorem co_X11_136 : VOk RX11 136 mX0_hasLamp 1 := ⟨gic (wt (mt_4 (List.mem_of_getElem? (i := 48) rfl)) rfl) rfl (gic wv_X0_hasLamp rfl (gic wz_X0_hasLamp rfl (gic wn_X0 rfl (gi1 wc_X0_hasLamp rfl)))), wd_X0_hasLamp⟩
theorem co_X11_152 : VOk RX11 152 mX0_hasWire 1 := ⟨gic (wt (mt_3 (List.mem_of_getElem? (i := 177) rfl)) rfl) rfl (gic wv_X0_hasWire rfl (gic wz_X0_hasWire rfl (gic wn_X0 rfl (gi1 wc_X0_hasWire rfl)))), wd_X0_hasWire⟩
theorem co_X11_158 : SOk RX11 158 mX11_entryAs 2 := ⟨gic (wt (mt_3 (List.mem_of_getElem? (i := 182) rfl)) rfl) rfl (gic ws_X11_entryAs rfl (gic wn_X11 rfl (gi1 wc_X11_entryAs rfl))), wd_X11_entryAs⟩
theorem co_X11_161 : SOk RX11 161 mJ9_min_7cf53 2 := ⟨gic (wt (mt_3 (List.mem_of_getElem? (i := 185) rfl)) rfl) rfl (gic ws_J9_min_7cf53 rfl (gic wn_J9 rfl (gi1 wc_J9_min_7cf53 rfl))), wd_J9_min_7cf53⟩
theorem co_X11_166 : SOk RX11 166 mJ9_max_7cf53 2 := ⟨gic (wt (mt_3 (List.mem_of_getElem? (i := 186) rfl)) rfl) rfl (gic ws_J9_max_7cf53 rfl (gic wn_J9 rfl (gi1 wc_J9_max_7cf53 rfl))), wd_J9_max_7cf53⟩
theorem co_X11_169 : VOk RX11 169 mX0_hasPair 2 := ⟨gic (wt (mt_3 (List.mem_of_getElem? (i := 193) rfl)) rfl) rfl (gic wv_X0_hasPair rfl (gic wz_X0_hasPair rfl (gic wn_X0 rfl (gi1 wc_X0_hasPair rfl)))), wd_X0_hasPair⟩
theorem co_X11_173 : VOk RX11 173 mX0_trade 2 := ⟨gic (wt (mt_3 (List.mem_of_getElem? (i := 201) rfl)) rfl) rfl (gic wv_X0_trade rfl (gic wz_X0_trade rfl (gic wn_X0 rfl (gi1 wc_X0_trade rfl)))), wd_X0_trade⟩
theorem co_X11_177 : VOk RX11 177 mX0_hasSetting 2 := ⟨gic (wt (mt_3 (List.mem_of_getElem? (i := 209) rfl)) rfl) rfl (gic wv_X0_hasSetting rfl (gic wz_X0_hasSetting rfl (gic wn_X0 rfl (gi1 wc_X0_hasSetting rfl)))), wd_X0_hasSetting⟩
theorem co_X11_18 : INOk RX11 18 mX9_init 0 := ⟨"NinetyLamps", gi1 wc_X9_init rfl, wn_X9, (wt (mt_1 (List.mem_of_getElem? (i := 103) rfl)) rfl), wv_X9_init, rfl, rfl, wd_X9_init⟩
theorem co_X11_186 : VOk RX11 186 mX1_glowing 2 := ⟨gic (wt (mt_3 (List.mem_of_getElem? (i := 213) rfl)) rfl) rfl (gic wv_X1_glowing rfl (gic wz_X1_glowing rfl (gic wn_X1 rfl (gi1 wc_X1_glowing rfl)))), wd_X1_glowing⟩
theorem co_X11_190 : SOk RX11 190 mJ13_bitCount_95d88 1 := ⟨gic (wt (mt_4 (List.mem_of_getElem? (i := 30) rfl)) rfl) rfl (gic ws_J13_bitCount_95d88 rfl (gic wn_J13 rfl (gi1 wc_J13_bitCount_95d88 rfl))), wd_J13_bitCount_95d88⟩
theorem co_X11_196 : VOk RX11 196 mX0_asked 2 := ⟨gic (wt (mt_4 (List.mem_of_getElem? (i := 39) rfl)) rfl) rfl (gic wv_X0_asked rfl (gic wz_X0_asked rfl (gic wn_X0 rfl (gi1 wc_X0_asked rfl)))), wd_X0_asked⟩
theorem co_X11_201 : VOk RX11 201 mX1_watch 3 := ⟨gic (wt (mt_4 (List.mem_of_getElem? (i := 49) rfl)) rfl) rfl (gic wv_X1_watch rfl (gic wz_X1_watch rfl (gic wn_X1 rfl (gi1 wc_X1_watch rfl)))), wd_X1_watch⟩
theorem co_X11_205 : VOk RX11 205 mX10_clear 0 := ⟨gic (wt (mt_4 (List.mem_of_getElem? (i := 53) rfl)) rfl) rfl (gic wv_X10_clear rfl (gic wz_X10_clear rfl (gic wn_X10 rfl (gi1 wc_X10_clear rfl)))), wd_X10_clear⟩
theorem co_X11_211 : VOk RX11 211 mX10_add 1 := ⟨gic (wt (mt_4 (List.mem_of_getElem? (i := 57) rfl)) rfl) rfl (gic wv_X10_add rfl (gic wz_X10_add rfl (gic wn_X10 rfl (gi1 wc_X10_add rfl)))), wd_X10_add⟩
theorem co_X11_234 : SOk RX11 234 mJ13_numberOfTrailingZeros_95d88 1 := ⟨gic (wt (mt_4 (List.mem_of_getElem? (i := 74) rfl)) rfl) rfl (gic ws_J13_numberOfTrailingZeros_95d88 rfl (gic wn_J13 rfl (gi1 wc_J13_numberOfTrailingZeros_95d88 rfl))), wd_J13_numberOfTrailingZeros_95d88⟩
theorem co_X11_237 : VOk RX11 237 mX0_hasLamps 1 := ⟨gic (wt (mt_4 (List.mem_of_getElem? (i := 79) rfl)) rfl) rfl (gic wv_X0_hasLamps rfl (gic wz_X0_hasLamps rfl (gic wn_X0 rfl (gi1 wc_X0_hasLamps rfl)))), wd_X0_hasLamps⟩
theorem co_X11_241 : VOk RX11 241 mX11_openTable 0 := ⟨gic (wt (mt_4 (List.mem_of_getElem? (i := 83) rfl)) rfl) rfl (gic wv_X11_openTable rfl (gic wz_X11_openTable rfl (gic wn_X11 rfl (gi1 wc_X11_openTable rfl)))), wd_X11_openTable⟩
theorem co_X11_25 : IOk RX11 25 mX6_init 1 := ⟨gi1 wc_X6_init rfl, wn_X6, (wt (mt_1 (List.mem_of_getElem? (i := 120) rfl)) rfl), wv_X6_init, rfl, rfl, wd_X6_init⟩
theorem co_X11_260 : SOk RX11 260 mJ7_fill_53178 2 := ⟨gic (wt (mt_4 (List.mem_of_getElem? (i := 118) rfl)) rfl) rfl (gic ws_J7_fill_53178 rfl (gic wn_J7 rfl (gi1 wc_J7_fill_53178 rfl))), wd_J7_fill_53178⟩
theorem co_X11_266 : VOk RX11 266 mX8_newSets 1 := ⟨gic (wt (mt_4 (List.mem_of_getElem? (i := 121) rfl)) rfl) rfl (gic wv_X8_newSets rfl (gic wz_X8_newSets rfl (gic wn_X8 rfl (gi1 wc_X8_newSets rfl)))), wd_X8_newSets⟩
theorem co_X11_272 : VOk RX11 272 mX8_likeBehind 1 := ⟨gic (wt (mt_4 (List.mem_of_getElem? (i := 143) rfl)) rfl) rfl (gic wv_X8_likeBehind rfl (gic wz_X8_likeBehind rfl (gic wn_X8 rfl (gi1 wc_X8_likeBehind rfl)))), wd_X8_likeBehind⟩
theorem co_X11_276 : SOk RX11 276 mX11_isPicture 1 := ⟨gic (wt (mt_4 (List.mem_of_getElem? (i := 155) rfl)) rfl) rfl (gic ws_X11_isPicture rfl (gic wn_X11 rfl (gi1 wc_X11_isPicture rfl))), wd_X11_isPicture⟩
theorem co_X11_282 : VOk RX11 282 mX11_partInto 1 := ⟨gic (wt (mt_4 (List.mem_of_getElem? (i := 162) rfl)) rfl) rfl (gic wv_X11_partInto rfl (gic wz_X11_partInto rfl (gic wn_X11 rfl (gi1 wc_X11_partInto rfl)))), wd_X11_partInto⟩
theorem co_X11_289 : VOk RX11 289 mX11_tellTurns 2 := ⟨gic (wt (mt_4 (List.mem_of_getElem? (i := 209) rfl)) rfl) rfl (gic wv_X11_tellTurns rfl (gic wz_X11_tellTurns rfl (gic wn_X11 rfl (gi1 wc_X11_tellTurns rfl)))), wd_X11_tellTurns⟩
theorem co_X11_292 : VOk RX11 292 mX11_openParting 1 := ⟨gic (wt (mt_4 (List.mem_of_getElem? (i := 166) rfl)) rfl) rfl (gic wv_X11_openParting rfl (gic wz_X11_openParting rfl (gic wn_X11 rfl (gi1 wc_X11_openParting rfl)))), wd_X11_openParting⟩
theorem co_X11_295 : VOk RX11 295 mX4_mostApart 0 := ⟨gic (wt (mt_4 (List.mem_of_getElem? (i := 217) rfl)) rfl) rfl (gic wv_X4_mostApart rfl (gic wz_X4_mostApart rfl (gic wn_X4 rfl (gi1 wc_X4_mostApart rfl)))), wd_X4_mostApart⟩
theorem co_X11_299 : VOk RX11 299 mX8_isTurn 2 := ⟨gic (wt (mt_5 (List.mem_of_getElem? (i := 0) rfl)) rfl) rfl (gic wv_X8_isTurn rfl (gic wz_X8_isTurn rfl (gic wn_X8 rfl (gi1 wc_X8_isTurn rfl)))), wd_X8_isTurn⟩
theorem co_X11_303 : VOk RX11 303 mX4_putInOrder 0 := ⟨gic (wt (mt_5 (List.mem_of_getElem? (i := 5) rfl)) rfl) rfl (gic wv_X4_putInOrder rfl (gic wz_X4_putInOrder rfl (gic wn_X4 rfl (gi1 wc_X4_putInOrder rfl)))), wd_X4_putInOrder⟩
theorem co_X11_310 : VOk RX11 310 mX4_giveSlots 1 := ⟨gic (wt (mt_5 (List.mem_of_getElem? (i := 22) rfl)) rfl) rfl (gic wv_X4_giveSlots rfl (gic wz_X4_giveSlots rfl (gic wn_X4 rfl (gi1 wc_X4_giveSlots rfl)))), wd_X4_giveSlots⟩
theorem co_X11_314 : VOk RX11 314 mX11_partTraded 3 := ⟨gic (wt (mt_5 (List.mem_of_getElem? (i := 44) rfl)) rfl) rfl (gic wv_X11_partTraded rfl (gic wz_X11_partTraded rfl (gic wn_X11 rfl (gi1 wc_X11_partTraded rfl)))), wd_X11_partTraded⟩
theorem co_X11_318 : VOk RX11 318 mX7_firstTouch 0 := ⟨gic (wt (mt_5 (List.mem_of_getElem? (i := 52) rfl)) rfl) rfl (gic wv_X7_firstTouch rfl (gic wz_X7_firstTouch rfl (gic wn_X7 rfl (gi1 wc_X7_firstTouch rfl)))), wd_X7_firstTouch⟩
theorem co_X11_321 : VOk RX11 321 mX7_firstTurned 0 := ⟨gic (wt (mt_5 (List.mem_of_getElem? (i := 56) rfl)) rfl) rfl (gic wv_X7_firstTurned rfl (gic wz_X7_firstTurned rfl (gic wn_X7 rfl (gi1 wc_X7_firstTurned rfl)))), wd_X7_firstTurned⟩
theorem co_X11_324 : VOk RX11 324 mX7_size 0 := ⟨gic (wt (mt_5 (List.mem_of_getElem? (i := 61) rfl)) rfl) rfl (gic wv_X7_size rfl (gic wz_X7_size rfl (gic wn_X7 rfl (gi1 wc_X7_size rfl)))), wd_X7_size⟩
theorem co_X11_326 : VOk RX11 326 mX7_has 1 := ⟨gic (wt (mt_5 (List.mem_of_getElem? (i := 70) rfl)) rfl) rfl (gic wv_X7_has rfl (gic wz_X7_has rfl (gic wn_X7 rfl (gi1 wc_X7_has rfl)))), wd_X7_has⟩
theorem co_X11_329 : VOk RX11 329 mX7_kindOf 1 := ⟨gic (wt (mt_6 (List.mem_of_getElem? (i := 109) rfl)) rfl) rfl (gic wv_X7_kindOf rfl (gic wz_X7_kindOf rfl (gic wn_X7 rfl (gi1 wc_X7_kindOf rfl)))), wd_X7_kindOf⟩
theorem co_X11_332 : VOk RX11 332 mX7_firstOf 1 := ⟨gic (wt (mt_6 (List.mem_of_getElem? (i := 110) rfl)) rfl) rfl (gic wv_X7_firstOf rfl (gic wz_X7_firstOf rfl (gic wn_X7 rfl (gi1 wc_X7_firstOf rfl)))), wd_X7_firstOf⟩
theorem co_X11_335 : VOk RX11 335 mX7_secondOf 1 := ⟨gic (wt (mt_6 (List.mem_of_getElem? (i := 111) rfl)) rfl) rfl (gic wv_X7_secondOf rfl (gic wz_X7_secondOf rfl (gic wn_X7 rfl (gi1 wc_X7_secondOf rfl)))), wd_X7_secondOf⟩
theorem co_X11_338 : VOk RX11 338 mX7_glowWith 3 := ⟨gic (wt (mt_5 (List.mem_of_getElem? (i := 75) rfl)) rfl) rfl (gic wv_X7_glowWith rfl (gic wz_X7_glowWith rfl (gic wn_X7 rfl (gi1 wc_X7_glowWith rfl)))), wd_X7_glowWith⟩
theorem co_X11_34 : INOk RX11 34 mX10_init 0 := ⟨"NinetyLamps", gi1 wc_X10_init rfl, wn_X10, (wt (mt_1 (List.mem_of_getElem? (i := 165) rfl)) rfl), wv_X10_init, rfl, rfl, wd_X10_init⟩
theorem co_X11_342 : VOk RX11 342 mX7_firstParting 3 := ⟨gic (wt (mt_5 (List.mem_of_getElem? (i := 114) rfl)) rfl) rfl (gic wv_X7_firstParting rfl (gic wz_X7_firstParting rfl (gic wn_X7 rfl (gi1 wc_X7_firstParting rfl)))), wd_X7_firstParting⟩
theorem co_X11_346 : VOk RX11 346 mX3_addSeen 3 := ⟨gic (wt (mt_5 (List.mem_of_getElem? (i := 135) rfl)) rfl) rfl (gic wv_X3_addSeen rfl (gic wz_X3_addSeen rfl (gic wn_X3 rfl (gi1 wc_X3_addSeen rfl)))), wd_X3_addSeen⟩
theorem co_X11_353 : VOk RX11 353 mX7_gather 0 := ⟨gic (wt (mt_5 (List.mem_of_getElem? (i := 147) rfl)) rfl) rfl (gic wv_X7_gather rfl (gic wz_X7_gather rfl (gic wn_X7 rfl (gi1 wc_X7_gather rfl)))), wd_X7_gather⟩
theorem co_X11_362 : VOk RX11 362 mX7_firstAgainst 1 := ⟨gic (wt (mt_5 (List.mem_of_getElem? (i := 159) rfl)) rfl) rfl (gic wv_X7_firstAgainst rfl (gic wz_X7_firstAgainst rfl (gic wn_X7 rfl (gi1 wc_X7_firstAgainst rfl)))), wd_X7_firstAgainst⟩
theorem co_X11_365 : VOk RX11 365 mX7_leftAtWorst 2 := ⟨gic (wt (mt_5 (List.mem_of_getElem? (i := 164) rfl)) rfl) rfl (gic wv_X7_leftAtWorst rfl (gic wz_X7_leftAtWorst rfl (gic wn_X7 rfl (gi1 wc_X7_leftAtWorst rfl)))), wd_X7_leftAtWorst⟩
theorem co_X11_368 : VOk RX11 368 mX5_addTest 2 := ⟨gic (wt (mt_5 (List.mem_of_getElem? (i := 177) rfl)) rfl) rfl (gic wv_X5_addTest rfl (gic wz_X5_addTest rfl (gic wn_X5 rfl (gi1 wc_X5_addTest rfl)))), wd_X5_addTest⟩
theorem co_X11_374 : VOk RX11 374 mX5_grow 0 := ⟨gic (wt (mt_5 (List.mem_of_getElem? (i := 185) rfl)) rfl) rfl (gic wv_X5_grow rfl (gic wz_X5_grow rfl (gic wn_X5 rfl (gi1 wc_X5_grow rfl)))), wd_X5_grow⟩
theorem co_X11_377 : VOk RX11 377 mX5_firstTest 2 := ⟨gic (wt (mt_5 (List.mem_of_getElem? (i := 225) rfl)) rfl) rfl (gic wv_X5_firstTest rfl (gic wz_X5_firstTest rfl (gic wn_X5 rfl (gi1 wc_X5_firstTest rfl)))), wd_X5_firstTest⟩
theorem co_X11_383 : VOk RX11 383 mX5_depthAt 2 := ⟨gic (wt (mt_5 (List.mem_of_getElem? (i := 233) rfl)) rfl) rfl (gic wv_X5_depthAt rfl (gic wz_X5_depthAt rfl (gic wn_X5 rfl (gi1 wc_X5_depthAt rfl)))), wd_X5_depthAt⟩
theorem co_X11_386 : VOk RX11 386 mX5_groupOfFault 1 := ⟨gic (wt (mt_5 (List.mem_of_getElem? (i := 238) rfl)) rfl) rfl (gic wv_X5_groupOfFault rfl (gic wz_X5_groupOfFault rfl (gic wn_X5 rfl (gi1 wc_X5_groupOfFault rfl)))), wd_X5_groupOfFault⟩
theorem co_X11_389 : VOk RX11 389 mX5_sizeOfGroup 1 := ⟨gic (wt (mt_6 (List.mem_of_getElem? (i := 2) rfl)) rfl) rfl (gic wv_X5_sizeOfGroup rfl (gic wz_X5_sizeOfGroup rfl (gic wn_X5 rfl (gi1 wc_X5_sizeOfGroup rfl)))), wd_X5_sizeOfGroup⟩
theorem co_X11_392 : VOk RX11 392 mX2_take 2 := ⟨gic (wt (mt_6 (List.mem_of_getElem? (i := 10) rfl)) rfl) rfl (gic wv_X2_take rfl (gic wz_X2_take rfl (gic wn_X2 rfl (gi1 wc_X2_take rfl)))), wd_X2_take⟩
theorem co_X11_399 : VOk RX11 399 mX2_give 2 := ⟨gic (wt (mt_6 (List.mem_of_getElem? (i := 24) rfl)) rfl) rfl (gic wv_X2_give rfl (gic wz_X2_give rfl (gic wn_X2 rfl (gi1 wc_X2_give rfl)))), wd_X2_give⟩
theorem co_X11_41 : IOk RX11 41 mX1_init 1 := ⟨gi1 wc_X1_init rfl, wn_X1, (wt (mt_1 (List.mem_of_getElem? (i := 180) rfl)) rfl), wv_X1_init, rfl, rfl, wd_X1_init⟩
theorem co_X11_411 : VOk RX11 411 mX0_startAnew 1 := ⟨gic (wt (mt_3 (List.mem_of_getElem? (i := 141) rfl)) rfl) rfl (gic wv_X0_startAnew rfl (gic wz_X0_startAnew rfl (gic wn_X0 rfl (gi1 wc_X0_startAnew rfl)))), wd_X0_startAnew⟩
theorem co_X11_414 : VOk RX11 414 mX3_clear 0 := ⟨gic (wt (mt_3 (List.mem_of_getElem? (i := 152) rfl)) rfl) rfl (gic wv_X3_clear rfl (gic wz_X3_clear rfl (gic wn_X3 rfl (gi1 wc_X3_clear rfl)))), wd_X3_clear⟩
theorem co_X11_418 : VOk RX11 418 mX0_resist 2 := ⟨gic (wt (mt_3 (List.mem_of_getElem? (i := 157) rfl)) rfl) rfl (gic wv_X0_resist rfl (gic wz_X0_resist rfl (gic wn_X0 rfl (gi1 wc_X0_resist rfl)))), wd_X0_resist⟩
theorem co_X11_424 : VOk RX11 424 mX0_add 3 := ⟨gic (wt (mt_3 (List.mem_of_getElem? (i := 165) rfl)) rfl) rfl (gic wv_X0_add rfl (gic wz_X0_add rfl (gic wn_X0 rfl (gi1 wc_X0_add rfl)))), wd_X0_add⟩
theorem co_X11_426 : VOk RX11 426 mX11_isSearchable 0 := ⟨gic (wt (mt_4 (List.mem_of_getElem? (i := 87) rfl)) rfl) rfl (gic wv_X11_isSearchable rfl (gic wz_X11_isSearchable rfl (gic wn_X11 rfl (gi1 wc_X11_isSearchable rfl)))), wd_X11_isSearchable⟩
theorem co_X11_429 : VOk RX11 429 mX8_refresh 0 := ⟨gic (wt (mt_4 (List.mem_of_getElem? (i := 91) rfl)) rfl) rfl (gic wv_X8_refresh rfl (gic wz_X8_refresh rfl (gic wn_X8 rfl (gi1 wc_X8_refresh rfl)))), wd_X8_refresh⟩
theorem co_X11_432 : VOk RX11 432 mX4_open 1 := ⟨gic (wt (mt_4 (List.mem_of_getElem? (i := 170) rfl)) rfl) rfl (gic wv_X4_open rfl (gic wz_X4_open rfl (gic wn_X4 rfl (gi1 wc_X4_open rfl)))), wd_X4_open⟩
theorem co_X11_435 : VOk RX11 435 mX4_part 0 := ⟨gic (wt (mt_4 (List.mem_of_getElem? (i := 182) rfl)) rfl) rfl (gic wv_X4_part rfl (gic wz_X4_part rfl (gic wn_X4 rfl (gi1 wc_X4_part rfl)))), wd_X4_part⟩
theorem co_X11_50 : INOk RX11 50 mX3_init 0 := ⟨"NinetyLamps", gi1 wc_X3_init rfl, wn_X3, (wt (mt_2 (List.mem_of_getElem? (i := 14) rfl)) rfl), wv_X3_init, rfl, rfl, wd_X3_init⟩
theorem co_X11_57 : IOk RX11 57 mX8_init 2 := ⟨gi1 wc_X8_init rfl, wn_X8, (wt (mt_2 (List.mem_of_getElem? (i := 50) rfl)) rfl), wv_X8_init, rfl, rfl, wd_X8_init⟩
theorem co_X11_66 : IOk RX11 66 mX4_init 2 := ⟨gi1 wc_X4_init rfl, wn_X4, (wt (mt_2 (List.mem_of_getElem? (i := 101) rfl)) rfl), wv_X4_init, rfl, rfl, wd_X4_init⟩
theorem co_X11_75 : IOk RX11 75 mX7_init 3 := ⟨gi1 wc_X7_init rfl, wn_X7, (wt (mt_2 (List.mem_of_getElem? (i := 162) rfl)) rfl), wv_X7_init, rfl, rfl, wd_X7_init⟩
theorem co_X11_84 : IOk RX11 84 mX5_init 1 := ⟨gi1 wc_X5_init rfl, wn_X5, (wt (mt_2 (List.mem_of_getElem? (i := 200) rfl)) rfl), wv_X5_init, rfl, rfl, wd_X5_init⟩
theorem co_X11_9 : INOk RX11 9 mX0_init 0 := ⟨"NinetyLamps", gi1 wc_X0_init rfl, wn_X0, (wt (mt_1 (List.mem_of_getElem? (i := 34) rfl)) rfl), wv_X0_init, rfl, rfl, wd_X0_init⟩
theorem co_X11_93 : INOk RX11 93 mX2_init 0 := ⟨"NinetyLamps", gi1 wc_X2_init rfl, wn_X2, (wt (mt_3 (List.mem_of_getElem? (i := 6) rfl)) rfl), wv_X2_init, rfl, rfl, wd_X2_init⟩
theorem co_X11_98 : VOk RX11 98 mX9_append 1 := ⟨gic (wt (mt_3 (List.mem_of_getElem? (i := 70) rfl)) rfl) rfl (gic wv_X9_append rfl (gic wz_X9_append rfl (gic wn_X9 rfl (gi1 wc_X9_append rfl)))), wd_X9_append⟩
theorem co_L_103 : VOk RL 103 mX12_shows 1 := ⟨gic (wt (mt_8 (List.mem_of_getElem? (i := 74) rfl)) rfl) rfl (gic wv_X12_shows rfl (gic wz_X12_shows rfl (gic wn_X12 rfl (gi1 wc_X12_shows rfl)))), wd_X12_shows⟩
theorem co_L_104 : VOk RL 104 mX11_bars 1 := ⟨gic (wt (mt_4 (List.mem_of_getElem? (i := 106) rfl)) rfl) rfl (gic wv_X11_bars rfl (gic wz_X11_bars rfl (gic wn_X11 rfl (gi1 wc_X11_bars rfl)))), wd_X11_bars⟩
theorem co_L_107 : VOk RL 107 mX12_bars 1 := ⟨gic (wt (mt_8 (List.mem_of_getElem? (i := 110) rfl)) rfl) rfl (gic wv_X12_bars rfl (gic wz_X12_bars rfl (gic wn_X12 rfl (gi1 wc_X12_bars rfl)))), wd_X12_bars⟩
theorem co_L_108 : VOk RL 108 mX11_most 0 := ⟨gic (wt (mt_4 (List.mem_of_getElem? (i := 110) rfl)) rfl) rfl (gic wv_X11_most rfl (gic wz_X11_most rfl (gic wn_X11 rfl (gi1 wc_X11_most rfl)))), wd_X11_most⟩
theorem co_L_111 : VOk RL 111 mX12_most 0 := ⟨gic (wt (mt_8 (List.mem_of_getElem? (i := 115) rfl)) rfl) rfl (gic wv_X12_most rfl (gic wz_X12_most rfl (gic wn_X12 rfl (gi1 wc_X12_most rfl)))), wd_X12_most⟩
theorem co_L_112 : VOk RL 112 mX11_sets 0 := ⟨gic (wt (mt_4 (List.mem_of_getElem? (i := 114) rfl)) rfl) rfl (gic wv_X11_sets rfl (gic wz_X11_sets rfl (gic wn_X11 rfl (gi1 wc_X11_sets rfl)))), wd_X11_sets⟩
theorem co_L_115 : VOk RL 115 mX12_sets 0 := ⟨gic (wt (mt_8 (List.mem_of_getElem? (i := 119) rfl)) rfl) rfl (gic wv_X12_sets rfl (gic wz_X12_sets rfl (gic wn_X12 rfl (gi1 wc_X12_sets rfl)))), wd_X12_sets⟩
theorem co_L_116 : VOk RL 116 mX11_fits 2 := ⟨gic (wt (mt_4 (List.mem_of_getElem? (i := 130) rfl)) rfl) rfl (gic wv_X11_fits rfl (gic wz_X11_fits rfl (gic wn_X11 rfl (gi1 wc_X11_fits rfl)))), wd_X11_fits⟩
theorem co_L_119 : VOk RL 119 mX12_fits 2 := ⟨gic (wt (mt_8 (List.mem_of_getElem? (i := 123) rfl)) rfl) rfl (gic wv_X12_fits rfl (gic wz_X12_fits rfl (gic wn_X12 rfl (gi1 wc_X12_fits rfl)))), wd_X12_fits⟩
theorem co_L_120 : VOk RL 120 mX11_alone 0 := ⟨gic (wt (mt_4 (List.mem_of_getElem? (i := 134) rfl)) rfl) rfl (gic wv_X11_alone rfl (gic wz_X11_alone rfl (gic wn_X11 rfl (gi1 wc_X11_alone rfl)))), wd_X11_alone⟩
theorem co_L_123 : VOk RL 123 mX12_alone 0 := ⟨gic (wt (mt_8 (List.mem_of_getElem? (i := 127) rfl)) rfl) rfl (gic wv_X12_alone rfl (gic wz_X12_alone rfl (gic wn_X12 rfl (gi1 wc_X12_alone rfl)))), wd_X12_alone⟩
theorem co_L_124 : VOk RL 124 mX11_twins 0 := ⟨gic (wt (mt_4 (List.mem_of_getElem? (i := 139) rfl)) rfl) rfl (gic wv_X11_twins rfl (gic wz_X11_twins rfl (gic wn_X11 rfl (gi1 wc_X11_twins rfl)))), wd_X11_twins⟩
theorem co_L_127 : VOk RL 127 mX12_twins 0 := ⟨gic (wt (mt_8 (List.mem_of_getElem? (i := 132) rfl)) rfl) rfl (gic wv_X12_twins rfl (gic wz_X12_twins rfl (gic wn_X12 rfl (gi1 wc_X12_twins rfl)))), wd_X12_twins⟩
theorem co_L_128 : VOk RL 128 mX11_range 2 := ⟨gic (wt (mt_4 (List.mem_of_getElem? (i := 147) rfl)) rfl) rfl (gic wv_X11_range rfl (gic wz_X11_range rfl (gic wn_X11 rfl (gi1 wc_X11_range rfl)))), wd_X11_range⟩
theorem co_L_131 : VOk RL 131 mX12_range 2 := ⟨gic (wt (mt_8 (List.mem_of_getElem? (i := 136) rfl)) rfl) rfl (gic wv_X12_range rfl (gic wz_X12_range rfl (gic wn_X12 rfl (gi1 wc_X12_range rfl)))), wd_X12_range⟩
theorem co_L_132 : VOk RL 132 mX11_picture 2 := ⟨gic (wt (mt_4 (List.mem_of_getElem? (i := 151) rfl)) rfl) rfl (gic wv_X11_picture rfl (gic wz_X11_picture rfl (gic wn_X11 rfl (gi1 wc_X11_picture rfl)))), wd_X11_picture⟩
theorem co_L_136 : VOk RL 136 mX12_picture 2 := ⟨gic (wt (mt_8 (List.mem_of_getElem? (i := 140) rfl)) rfl) rfl (gic wv_X12_picture rfl (gic wz_X12_picture rfl (gic wn_X12 rfl (gi1 wc_X12_picture rfl)))), wd_X12_picture⟩
theorem co_L_137 : VOk RL 137 mX11_parted 1 := ⟨gic (wt (mt_4 (List.mem_of_getElem? (i := 158) rfl)) rfl) rfl (gic wv_X11_parted rfl (gic wz_X11_parted rfl (gic wn_X11 rfl (gi1 wc_X11_parted rfl)))), wd_X11_parted⟩
theorem co_L_140 : VOk RL 140 mX12_parted 1 := ⟨gic (wt (mt_8 (List.mem_of_getElem? (i := 144) rfl)) rfl) rfl (gic wv_X12_parted rfl (gic wz_X12_parted rfl (gic wn_X12 rfl (gi1 wc_X12_parted rfl)))), wd_X12_parted⟩
theorem co_L_141 : VOk RL 141 mX11_proof 1 := ⟨gic (wt (mt_4 (List.mem_of_getElem? (i := 213) rfl)) rfl) rfl (gic wv_X11_proof rfl (gic wz_X11_proof rfl (gic wn_X11 rfl (gi1 wc_X11_proof rfl)))), wd_X11_proof⟩
theorem co_L_144 : VOk RL 144 mX12_proof 1 := ⟨gic (wt (mt_8 (List.mem_of_getElem? (i := 170) rfl)) rfl) rfl (gic wv_X12_proof rfl (gic wz_X12_proof rfl (gic wn_X12 rfl (gi1 wc_X12_proof rfl)))), wd_X12_proof⟩
theorem co_L_145 : VOk RL 145 mX11_never 1 := ⟨gic (wt (mt_4 (List.mem_of_getElem? (i := 236) rfl)) rfl) rfl (gic wv_X11_never rfl (gic wz_X11_never rfl (gic wn_X11 rfl (gi1 wc_X11_never rfl)))), wd_X11_never⟩
theorem co_L_148 : VOk RL 148 mX12_never 1 := ⟨gic (wt (mt_8 (List.mem_of_getElem? (i := 175) rfl)) rfl) rfl (gic wv_X12_never rfl (gic wz_X12_never rfl (gic wn_X12 rfl (gi1 wc_X12_never rfl)))), wd_X12_never⟩
theorem co_L_149 : VOk RL 149 mX11_changes 1 := ⟨gic (wt (mt_5 (List.mem_of_getElem? (i := 1) rfl)) rfl) rfl (gic wv_X11_changes rfl (gic wz_X11_changes rfl (gic wn_X11 rfl (gi1 wc_X11_changes rfl)))), wd_X11_changes⟩
theorem co_L_15 : VOk RL 15 mX11_fault 2 := ⟨gic (wt (mt_6 (List.mem_of_getElem? (i := 105) rfl)) rfl) rfl (gic wv_X11_fault rfl (gic wz_X11_fault rfl (gic wn_X11 rfl (gi1 wc_X11_fault rfl)))), wd_X11_fault⟩
theorem co_L_152 : VOk RL 152 mX12_changes 1 := ⟨gic (wt (mt_8 (List.mem_of_getElem? (i := 179) rfl)) rfl) rfl (gic wv_X12_changes rfl (gic wz_X12_changes rfl (gic wn_X12 rfl (gi1 wc_X12_changes rfl)))), wd_X12_changes⟩
theorem co_L_153 : VOk RL 153 mX11_even 2 := ⟨gic (wt (mt_5 (List.mem_of_getElem? (i := 18) rfl)) rfl) rfl (gic wv_X11_even rfl (gic wz_X11_even rfl (gic wn_X11 rfl (gi1 wc_X11_even rfl)))), wd_X11_even⟩
theorem co_L_157 : VOk RL 157 mX12_even 2 := ⟨gic (wt (mt_8 (List.mem_of_getElem? (i := 191) rfl)) rfl) rfl (gic wv_X12_even rfl (gic wz_X12_even rfl (gic wn_X12 rfl (gi1 wc_X12_even rfl)))), wd_X12_even⟩
theorem co_L_158 : VOk RL 158 mX11_better 1 := ⟨gic (wt (mt_5 (List.mem_of_getElem? (i := 40) rfl)) rfl) rfl (gic wv_X11_better rfl (gic wz_X11_better rfl (gic wn_X11 rfl (gi1 wc_X11_better rfl)))), wd_X11_better⟩
theorem co_L_161 : VOk RL 161 mX12_better 1 := ⟨gic (wt (mt_8 (List.mem_of_getElem? (i := 204) rfl)) rfl) rfl (gic wv_X12_better rfl (gic wz_X12_better rfl (gic wn_X12 rfl (gi1 wc_X12_better rfl)))), wd_X12_better⟩
theorem co_L_162 : VOk RL 162 mX11_faults 0 := ⟨gic (wt (mt_5 (List.mem_of_getElem? (i := 48) rfl)) rfl) rfl (gic wv_X11_faults rfl (gic wz_X11_faults rfl (gic wn_X11 rfl (gi1 wc_X11_faults rfl)))), wd_X11_faults⟩
theorem co_L_165 : VOk RL 165 mX12_faults 0 := ⟨gic (wt (mt_8 (List.mem_of_getElem? (i := 208) rfl)) rfl) rfl (gic wv_X12_faults rfl (gic wz_X12_faults rfl (gic wn_X12 rfl (gi1 wc_X12_faults rfl)))), wd_X12_faults⟩
theorem co_L_168 : VOk RL 168 mX12_fault_ 2 := ⟨gic (wt (mt_8 (List.mem_of_getElem? (i := 216) rfl)) rfl) rfl (gic wv_X12_fault_ rfl (gic wz_X12_fault_ rfl (gic wn_X12 rfl (gi1 wc_X12_fault_ rfl)))), wd_X12_fault_⟩
theorem co_L_169 : VOk RL 169 mX11_would 3 := ⟨gic (wt (mt_5 (List.mem_of_getElem? (i := 66) rfl)) rfl) rfl (gic wv_X11_would rfl (gic wz_X11_would rfl (gic wn_X11 rfl (gi1 wc_X11_would rfl)))), wd_X11_would⟩
theorem co_L_173 : VOk RL 173 mX12_would 3 := ⟨gic (wt (mt_8 (List.mem_of_getElem? (i := 224) rfl)) rfl) rfl (gic wv_X12_would rfl (gic wz_X12_would rfl (gic wn_X12 rfl (gi1 wc_X12_would rfl)))), wd_X12_would⟩
theorem co_L_174 : VOk RL 174 mX11_tells 1 := ⟨gic (wt (mt_5 (List.mem_of_getElem? (i := 110) rfl)) rfl) rfl (gic wv_X11_tells rfl (gic wz_X11_tells rfl (gic wn_X11 rfl (gi1 wc_X11_tells rfl)))), wd_X11_tells⟩
theorem co_L_177 : VOk RL 177 mX12_tells 1 := ⟨gic (wt (mt_8 (List.mem_of_getElem? (i := 228) rfl)) rfl) rfl (gic wv_X12_tells rfl (gic wz_X12_tells rfl (gic wn_X12 rfl (gi1 wc_X12_tells rfl)))), wd_X12_tells⟩
theorem co_L_178 : VOk RL 178 mX11_hidden 0 := ⟨gic (wt (mt_5 (List.mem_of_getElem? (i := 123) rfl)) rfl) rfl (gic wv_X11_hidden rfl (gic wz_X11_hidden rfl (gic wn_X11 rfl (gi1 wc_X11_hidden rfl)))), wd_X11_hidden⟩
theorem co_L_18 : VOk RL 18 mX11_row 1 := ⟨gic (wt (mt_6 (List.mem_of_getElem? (i := 118) rfl)) rfl) rfl (gic wv_X11_row rfl (gic wz_X11_row rfl (gic wn_X11 rfl (gi1 wc_X11_row rfl)))), wd_X11_row⟩
theorem co_L_181 : VOk RL 181 mX12_hidden 0 := ⟨gic (wt (mt_8 (List.mem_of_getElem? (i := 232) rfl)) rfl) rfl (gic wv_X12_hidden rfl (gic wz_X12_hidden rfl (gic wn_X12 rfl (gi1 wc_X12_hidden rfl)))), wd_X12_hidden⟩
theorem co_L_182 : VOk RL 182 mX11_alike 2 := ⟨gic (wt (mt_5 (List.mem_of_getElem? (i := 127) rfl)) rfl) rfl (gic wv_X11_alike rfl (gic wz_X11_alike rfl (gic wn_X11 rfl (gi1 wc_X11_alike rfl)))), wd_X11_alike⟩
theorem co_L_185 : VOk RL 185 mX12_alike 2 := ⟨gic (wt (mt_9 (List.mem_of_getElem? (i := 0) rfl)) rfl) rfl (gic wv_X12_alike rfl (gic wz_X12_alike rfl (gic wn_X12 rfl (gi1 wc_X12_alike rfl)))), wd_X12_alike⟩
theorem co_L_186 : VOk RL 186 mX11_seen 3 := ⟨gic (wt (mt_5 (List.mem_of_getElem? (i := 131) rfl)) rfl) rfl (gic wv_X11_seen rfl (gic wz_X11_seen rfl (gic wn_X11 rfl (gi1 wc_X11_seen rfl)))), wd_X11_seen⟩
theorem co_L_190 : VOk RL 190 mX12_seen 3 := ⟨gic (wt (mt_9 (List.mem_of_getElem? (i := 4) rfl)) rfl) rfl (gic wv_X12_seen rfl (gic wz_X12_seen rfl (gic wn_X12 rfl (gi1 wc_X12_seen rfl)))), wd_X12_seen⟩
theorem co_L_191 : VOk RL 191 mX11_forget 0 := ⟨gic (wt (mt_5 (List.mem_of_getElem? (i := 139) rfl)) rfl) rfl (gic wv_X11_forget rfl (gic wz_X11_forget rfl (gic wn_X11 rfl (gi1 wc_X11_forget rfl)))), wd_X11_forget⟩
theorem co_L_194 : VOk RL 194 mX12_forget 0 := ⟨gic (wt (mt_9 (List.mem_of_getElem? (i := 8) rfl)) rfl) rfl (gic wv_X12_forget rfl (gic wz_X12_forget rfl (gic wn_X12 rfl (gi1 wc_X12_forget rfl)))), wd_X12_forget⟩
theorem co_L_195 : VOk RL 195 mX11_which 0 := ⟨gic (wt (mt_5 (List.mem_of_getElem? (i := 143) rfl)) rfl) rfl (gic wv_X11_which rfl (gic wz_X11_which rfl (gic wn_X11 rfl (gi1 wc_X11_which rfl)))), wd_X11_which⟩
theorem co_L_198 : VOk RL 198 mX12_which 0 := ⟨gic (wt (mt_9 (List.mem_of_getElem? (i := 12) rfl)) rfl) rfl (gic wv_X12_which rfl (gic wz_X12_which rfl (gic wn_X12 rfl (gi1 wc_X12_which rfl)))), wd_X12_which⟩
theorem co_L_199 : VOk RL 199 mX11_judge 1 := ⟨gic (wt (mt_5 (List.mem_of_getElem? (i := 155) rfl)) rfl) rfl (gic wv_X11_judge rfl (gic wz_X11_judge rfl (gic wn_X11 rfl (gi1 wc_X11_judge rfl)))), wd_X11_judge⟩
theorem co_L_202 : VOk RL 202 mX12_judge 1 := ⟨gic (wt (mt_9 (List.mem_of_getElem? (i := 24) rfl)) rfl) rfl (gic wv_X12_judge rfl (gic wz_X12_judge rfl (gic wn_X12 rfl (gi1 wc_X12_judge rfl)))), wd_X12_judge⟩
theorem co_L_203 : VOk RL 203 mX11_next 0 := ⟨gic (wt (mt_5 (List.mem_of_getElem? (i := 160) rfl)) rfl) rfl (gic wv_X11_next rfl (gic wz_X11_next rfl (gic wn_X11 rfl (gi1 wc_X11_next rfl)))), wd_X11_next⟩
theorem co_L_206 : VOk RL 206 mX12_next 0 := ⟨gic (wt (mt_9 (List.mem_of_getElem? (i := 28) rfl)) rfl) rfl (gic wv_X12_next rfl (gic wz_X12_next rfl (gic wn_X12 rfl (gi1 wc_X12_next rfl)))), wd_X12_next⟩
theorem co_L_207 : VOk RL 207 mX11_test 2 := ⟨gic (wt (mt_5 (List.mem_of_getElem? (i := 173) rfl)) rfl) rfl (gic wv_X11_test rfl (gic wz_X11_test rfl (gic wn_X11 rfl (gi1 wc_X11_test rfl)))), wd_X11_test⟩
theorem co_L_210 : VOk RL 210 mX12_test 2 := ⟨gic (wt (mt_9 (List.mem_of_getElem? (i := 32) rfl)) rfl) rfl (gic wv_X12_test rfl (gic wz_X12_test rfl (gic wn_X12 rfl (gi1 wc_X12_test rfl)))), wd_X12_test⟩
theorem co_L_211 : VOk RL 211 mX11_tree 0 := ⟨gic (wt (mt_5 (List.mem_of_getElem? (i := 181) rfl)) rfl) rfl (gic wv_X11_tree rfl (gic wz_X11_tree rfl (gic wn_X11 rfl (gi1 wc_X11_tree rfl)))), wd_X11_tree⟩
theorem co_L_214 : VOk RL 214 mX12_tree 0 := ⟨gic (wt (mt_9 (List.mem_of_getElem? (i := 36) rfl)) rfl) rfl (gic wv_X12_tree rfl (gic wz_X12_tree rfl (gic wn_X12 rfl (gi1 wc_X12_tree rfl)))), wd_X12_tree⟩
theorem co_L_215 : VOk RL 215 mX11_path 1 := ⟨gic (wt (mt_5 (List.mem_of_getElem? (i := 234) rfl)) rfl) rfl (gic wv_X11_path rfl (gic wz_X11_path rfl (gic wn_X11 rfl (gi1 wc_X11_path rfl)))), wd_X11_path⟩
theorem co_L_218 : VOk RL 218 mX12_path 1 := ⟨gic (wt (mt_9 (List.mem_of_getElem? (i := 68) rfl)) rfl) rfl (gic wv_X12_path rfl (gic wz_X12_path rfl (gic wn_X12 rfl (gi1 wc_X12_path rfl)))), wd_X12_path⟩
theorem co_L_219 : VOk RL 219 mX11_keep 1 := ⟨gic (wt (mt_6 (List.mem_of_getElem? (i := 6) rfl)) rfl) rfl (gic wv_X11_keep rfl (gic wz_X11_keep rfl (gic wn_X11 rfl (gi1 wc_X11_keep rfl)))), wd_X11_keep⟩
theorem co_L_22 : IOk RL 22 mX11_init 0 := ⟨gi1 wc_X11_init rfl, wn_X11, (wt (mt_1 (List.mem_of_getElem? (i := 26) rfl)) rfl), wv_X11_init, rfl, rfl, wd_X11_init⟩
theorem co_L_222 : VOk RL 222 mX12_keep 1 := ⟨gic (wt (mt_9 (List.mem_of_getElem? (i := 72) rfl)) rfl) rfl (gic wv_X12_keep rfl (gic wz_X12_keep rfl (gic wn_X12 rfl (gi1 wc_X12_keep rfl)))), wd_X12_keep⟩
theorem co_L_223 : VOk RL 223 mX11_again 1 := ⟨gic (wt (mt_6 (List.mem_of_getElem? (i := 20) rfl)) rfl) rfl (gic wv_X11_again rfl (gic wz_X11_again rfl (gic wn_X11 rfl (gi1 wc_X11_again rfl)))), wd_X11_again⟩
theorem co_L_226 : VOk RL 226 mX12_again 1 := ⟨gic (wt (mt_9 (List.mem_of_getElem? (i := 76) rfl)) rfl) rfl (gic wv_X12_again rfl (gic wz_X12_again rfl (gic wn_X12 rfl (gi1 wc_X12_again rfl)))), wd_X12_again⟩
theorem co_L_227 : VOk RL 227 mX11_count 1 := ⟨gic (wt (mt_6 (List.mem_of_getElem? (i := 29) rfl)) rfl) rfl (gic wv_X11_count rfl (gic wz_X11_count rfl (gic wn_X11 rfl (gi1 wc_X11_count rfl)))), wd_X11_count⟩
theorem co_L_230 : VOk RL 230 mX12_count 1 := ⟨gic (wt (mt_9 (List.mem_of_getElem? (i := 80) rfl)) rfl) rfl (gic wv_X12_count rfl (gic wz_X12_count rfl (gic wn_X12 rfl (gi1 wc_X12_count rfl)))), wd_X12_count⟩
theorem co_L_234 : VOk RL 234 mX12_row 1 := ⟨gic (wt (mt_9 (List.mem_of_getElem? (i := 84) rfl)) rfl) rfl (gic wv_X12_row rfl (gic wz_X12_row rfl (gic wn_X12 rfl (gi1 wc_X12_row rfl)))), wd_X12_row⟩
theorem co_L_25 : IOk RL 25 mX12_init 0 := ⟨gi1 wc_X12_init rfl, wn_X12, (wt (mt_6 (List.mem_of_getElem? (i := 124) rfl)) rfl), wv_X12_init, rfl, rfl, wd_X12_init⟩
theorem co_L_26 : VOk RL 26 mX11_sign 1 := ⟨gic (wt (mt_3 (List.mem_of_getElem? (i := 66) rfl)) rfl) rfl (gic wv_X11_sign rfl (gic wz_X11_sign rfl (gic wn_X11 rfl (gi1 wc_X11_sign rfl)))), wd_X11_sign⟩
theorem co_L_30 : VOk RL 30 mX12_sign 1 := ⟨gic (wt (mt_7 (List.mem_of_getElem? (i := 120) rfl)) rfl) rfl (gic wv_X12_sign rfl (gic wz_X12_sign rfl (gic wn_X12 rfl (gi1 wc_X12_sign rfl)))), wd_X12_sign⟩
theorem co_L_31 : VOk RL 31 mX11_end 1 := ⟨gic (wt (mt_3 (List.mem_of_getElem? (i := 74) rfl)) rfl) rfl (gic wv_X11_end rfl (gic wz_X11_end rfl (gic wn_X11 rfl (gi1 wc_X11_end rfl)))), wd_X11_end⟩
theorem co_L_35 : VOk RL 35 mX12_end 1 := ⟨gic (wt (mt_7 (List.mem_of_getElem? (i := 124) rfl)) rfl) rfl (gic wv_X12_end rfl (gic wz_X12_end rfl (gic wn_X12 rfl (gi1 wc_X12_end rfl)))), wd_X12_end⟩
theorem co_L_36 : VOk RL 36 mX11_board 0 := ⟨gic (wt (mt_3 (List.mem_of_getElem? (i := 78) rfl)) rfl) rfl (gic wv_X11_board rfl (gic wz_X11_board rfl (gic wn_X11 rfl (gi1 wc_X11_board rfl)))), wd_X11_board⟩
theorem co_L_40 : VOk RL 40 mX12_board 0 := ⟨gic (wt (mt_7 (List.mem_of_getElem? (i := 131) rfl)) rfl) rfl (gic wv_X12_board rfl (gic wz_X12_board rfl (gic wn_X12 rfl (gi1 wc_X12_board rfl)))), wd_X12_board⟩
theorem co_L_41 : VOk RL 41 mX11_set 2 := ⟨gic (wt (mt_3 (List.mem_of_getElem? (i := 169) rfl)) rfl) rfl (gic wv_X11_set rfl (gic wz_X11_set rfl (gic wn_X11 rfl (gi1 wc_X11_set rfl)))), wd_X11_set⟩
theorem co_L_44 : VOk RL 44 mX12_set 2 := ⟨gic (wt (mt_7 (List.mem_of_getElem? (i := 161) rfl)) rfl) rfl (gic wv_X12_set rfl (gic wz_X12_set rfl (gic wn_X12 rfl (gi1 wc_X12_set rfl)))), wd_X12_set⟩
theorem co_L_50 : VOk RL 50 mX12_lamp 2 := ⟨gic (wt (mt_7 (List.mem_of_getElem? (i := 169) rfl)) rfl) rfl (gic wv_X12_lamp rfl (gic wz_X12_lamp rfl (gic wn_X12 rfl (gi1 wc_X12_lamp rfl)))), wd_X12_lamp⟩
theorem co_L_51 : VOk RL 51 mX12_thrown 0 := ⟨gic (wt (mt_7 (List.mem_of_getElem? (i := 116) rfl)) rfl) rfl (gic wv_X12_thrown rfl (gic wz_X12_thrown rfl (gic wn_X12 rfl (gi1 wc_X12_thrown rfl)))), wd_X12_thrown⟩
theorem co_L_54 : VOk RL 54 mX11_ohms 1 := ⟨gic (wt (mt_3 (List.mem_of_getElem? (i := 173) rfl)) rfl) rfl (gic wv_X11_ohms rfl (gic wz_X11_ohms rfl (gic wn_X11 rfl (gi1 wc_X11_ohms rfl)))), wd_X11_ohms⟩
theorem co_L_57 : VOk RL 57 mX12_ohms 1 := ⟨gic (wt (mt_7 (List.mem_of_getElem? (i := 181) rfl)) rfl) rfl (gic wv_X12_ohms rfl (gic wz_X12_ohms rfl (gic wn_X12 rfl (gi1 wc_X12_ohms rfl)))), wd_X12_ohms⟩
theorem co_L_58 : VOk RL 58 mX11_sheet 4 := ⟨gic (wt (mt_3 (List.mem_of_getElem? (i := 178) rfl)) rfl) rfl (gic wv_X11_sheet rfl (gic wz_X11_sheet rfl (gic wn_X11 rfl (gi1 wc_X11_sheet rfl)))), wd_X11_sheet⟩
theorem co_L_62 : VOk RL 62 mX12_sheet 4 := ⟨gic (wt (mt_7 (List.mem_of_getElem? (i := 189) rfl)) rfl) rfl (gic wv_X12_sheet rfl (gic wz_X12_sheet rfl (gic wn_X12 rfl (gi1 wc_X12_sheet rfl)))), wd_X12_sheet⟩
theorem co_L_63 : VOk RL 63 mX11_swap 2 := ⟨gic (wt (mt_3 (List.mem_of_getElem? (i := 189) rfl)) rfl) rfl (gic wv_X11_swap rfl (gic wz_X11_swap rfl (gic wn_X11 rfl (gi1 wc_X11_swap rfl)))), wd_X11_swap⟩
theorem co_L_67 : VOk RL 67 mX12_swap 2 := ⟨gic (wt (mt_7 (List.mem_of_getElem? (i := 195) rfl)) rfl) rfl (gic wv_X12_swap rfl (gic wz_X12_swap rfl (gic wn_X12 rfl (gi1 wc_X12_swap rfl)))), wd_X12_swap⟩
theorem co_L_68 : VOk RL 68 mX11_put 2 := ⟨gic (wt (mt_3 (List.mem_of_getElem? (i := 205) rfl)) rfl) rfl (gic wv_X11_put rfl (gic wz_X11_put rfl (gic wn_X11 rfl (gi1 wc_X11_put rfl)))), wd_X11_put⟩
theorem co_L_7 : VOk RL 7 mX11_lamp 2 := ⟨gic (wt (mt_6 (List.mem_of_getElem? (i := 37) rfl)) rfl) rfl (gic wv_X11_lamp rfl (gic wz_X11_lamp rfl (gic wn_X11 rfl (gi1 wc_X11_lamp rfl)))), wd_X11_lamp⟩
theorem co_L_71 : VOk RL 71 mX12_put 2 := ⟨gic (wt (mt_7 (List.mem_of_getElem? (i := 203) rfl)) rfl) rfl (gic wv_X12_put rfl (gic wz_X12_put rfl (gic wn_X12 rfl (gi1 wc_X12_put rfl)))), wd_X12_put⟩
theorem co_L_72 : VOk RL 72 mX11_glows 0 := ⟨gic (wt (mt_4 (List.mem_of_getElem? (i := 31) rfl)) rfl) rfl (gic wv_X11_glows rfl (gic wz_X11_glows rfl (gic wn_X11 rfl (gi1 wc_X11_glows rfl)))), wd_X11_glows⟩
theorem co_L_76 : VOk RL 76 mX12_glows 0 := ⟨gic (wt (mt_8 (List.mem_of_getElem? (i := 36) rfl)) rfl) rfl (gic wv_X12_glows rfl (gic wz_X12_glows rfl (gic wn_X12 rfl (gi1 wc_X12_glows rfl)))), wd_X12_glows⟩
theorem co_L_77 : VOk RL 77 mX11_ghosts 0 := ⟨gic (wt (mt_4 (List.mem_of_getElem? (i := 35) rfl)) rfl) rfl (gic wv_X11_ghosts rfl (gic wz_X11_ghosts rfl (gic wn_X11 rfl (gi1 wc_X11_ghosts rfl)))), wd_X11_ghosts⟩
theorem co_L_80 : VOk RL 80 mX12_ghosts 0 := ⟨gic (wt (mt_8 (List.mem_of_getElem? (i := 40) rfl)) rfl) rfl (gic wv_X12_ghosts rfl (gic wz_X12_ghosts rfl (gic wn_X12 rfl (gi1 wc_X12_ghosts rfl)))), wd_X12_ghosts⟩
theorem co_L_81 : VOk RL 81 mX11_light 1 := ⟨gic (wt (mt_4 (List.mem_of_getElem? (i := 44) rfl)) rfl) rfl (gic wv_X11_light rfl (gic wz_X11_light rfl (gic wn_X11 rfl (gi1 wc_X11_light rfl)))), wd_X11_light⟩
theorem co_L_84 : VOk RL 84 mX12_light 1 := ⟨gic (wt (mt_8 (List.mem_of_getElem? (i := 49) rfl)) rfl) rfl (gic wv_X12_light rfl (gic wz_X12_light rfl (gic wn_X12 rfl (gi1 wc_X12_light rfl)))), wd_X12_light⟩
theorem co_L_85 : VOk RL 85 mX11_why 1 := ⟨gic (wt (mt_4 (List.mem_of_getElem? (i := 61) rfl)) rfl) rfl (gic wv_X11_why rfl (gic wz_X11_why rfl (gic wn_X11 rfl (gi1 wc_X11_why rfl)))), wd_X11_why⟩
theorem co_L_88 : VOk RL 88 mX12_why 1 := ⟨gic (wt (mt_8 (List.mem_of_getElem? (i := 61) rfl)) rfl) rfl (gic wv_X12_why rfl (gic wz_X12_why rfl (gic wn_X12 rfl (gi1 wc_X12_why rfl)))), wd_X12_why⟩
theorem co_L_89 : VOk RL 89 mX11_draws 1 := ⟨gic (wt (mt_4 (List.mem_of_getElem? (i := 66) rfl)) rfl) rfl (gic wv_X11_draws rfl (gic wz_X11_draws rfl (gic wn_X11 rfl (gi1 wc_X11_draws rfl)))), wd_X11_draws⟩
theorem co_L_92 : VOk RL 92 mX12_draws 1 := ⟨gic (wt (mt_8 (List.mem_of_getElem? (i := 66) rfl)) rfl) rfl (gic wv_X12_draws rfl (gic wz_X12_draws rfl (gic wn_X12 rfl (gi1 wc_X12_draws rfl)))), wd_X12_draws⟩
theorem co_L_93 : VOk RL 93 mX11_brightest 0 := ⟨gic (wt (mt_4 (List.mem_of_getElem? (i := 70) rfl)) rfl) rfl (gic wv_X11_brightest rfl (gic wz_X11_brightest rfl (gic wn_X11 rfl (gi1 wc_X11_brightest rfl)))), wd_X11_brightest⟩
theorem co_L_96 : VOk RL 96 mX12_brightest 0 := ⟨gic (wt (mt_8 (List.mem_of_getElem? (i := 70) rfl)) rfl) rfl (gic wv_X12_brightest rfl (gic wz_X12_brightest rfl (gic wn_X12 rfl (gi1 wc_X12_brightest rfl)))), wd_X12_brightest⟩
theorem co_L_99 : VOk RL 99 mX11_shows 1 := ⟨gic (wt (mt_4 (List.mem_of_getElem? (i := 75) rfl)) rfl) rfl (gic wv_X11_shows rfl (gic wz_X11_shows rfl (gic wn_X11 rfl (gi1 wc_X11_shows rfl)))), wd_X11_shows⟩
theorem co_X12_165 : SOk RX12 165 mX12_in 3 := ⟨gic (wt (mt_7 (List.mem_of_getElem? (i := 128) rfl)) rfl) rfl (gic ws_X12_in rfl (gic wn_X12 rfl (gi1 wc_X12_in rfl))), wd_X12_in⟩
theorem co_X12_184 : VOk RX12 184 mX12_here 0 := ⟨gic (wt (mt_7 (List.mem_of_getElem? (i := 139) rfl)) rfl) rfl (gic wv_X12_here rfl (gic wz_X12_here rfl (gic wn_X12 rfl (gi1 wc_X12_here rfl)))), wd_X12_here⟩
theorem co_X12_188 : VOk RX12 188 mX12_passes 1 := ⟨gic (wt (mt_7 (List.mem_of_getElem? (i := 135) rfl)) rfl) rfl (gic wv_X12_passes rfl (gic wz_X12_passes rfl (gic wn_X12 rfl (gi1 wc_X12_passes rfl)))), wd_X12_passes⟩
theorem co_X12_192 : VOk RX12 192 mX12_fault 1 := ⟨gic (wt (mt_7 (List.mem_of_getElem? (i := 149) rfl)) rfl) rfl (gic wv_X12_fault rfl (gic wz_X12_fault rfl (gic wn_X12 rfl (gi1 wc_X12_fault rfl)))), wd_X12_fault⟩
theorem co_X12_200 : VOk RX12 200 mX12_number 3 := ⟨gic (wt (mt_7 (List.mem_of_getElem? (i := 143) rfl)) rfl) rfl (gic wv_X12_number rfl (gic wz_X12_number rfl (gic wn_X12 rfl (gi1 wc_X12_number rfl)))), wd_X12_number⟩
theorem co_X12_204 : VOk RX12 204 mX12_need 1 := ⟨gic (wt (mt_7 (List.mem_of_getElem? (i := 153) rfl)) rfl) rfl (gic wv_X12_need rfl (gic wz_X12_need rfl (gic wn_X12 rfl (gi1 wc_X12_need rfl)))), wd_X12_need⟩
theorem co_X12_208 : VOk RX12 208 mX12_take 1 := ⟨gic (wt (mt_7 (List.mem_of_getElem? (i := 157) rfl)) rfl) rfl (gic wv_X12_take rfl (gic wz_X12_take rfl (gic wn_X12 rfl (gi1 wc_X12_take rfl)))), wd_X12_take⟩
theorem co_X12_234 : VOk RX12 234 mX12_isLamp 1 := ⟨gic (wt (mt_7 (List.mem_of_getElem? (i := 173) rfl)) rfl) rfl (gic wv_X12_isLamp rfl (gic wz_X12_isLamp rfl (gic wn_X12 rfl (gi1 wc_X12_isLamp rfl)))), wd_X12_isLamp⟩
theorem co_X12_238 : VOk RX12 238 mX12_lost 0 := ⟨gic (wt (mt_7 (List.mem_of_getElem? (i := 177) rfl)) rfl) rfl (gic wv_X12_lost rfl (gic wz_X12_lost rfl (gic wn_X12 rfl (gi1 wc_X12_lost rfl)))), wd_X12_lost⟩
theorem co_X12_241 : VOk RX12 241 mX12_isWire 1 := ⟨gic (wt (mt_7 (List.mem_of_getElem? (i := 185) rfl)) rfl) rfl (gic wv_X12_isWire rfl (gic wz_X12_isWire rfl (gic wn_X12 rfl (gi1 wc_X12_isWire rfl)))), wd_X12_isWire⟩
theorem co_X12_244 : SOk RX12 244 mJ9_min_7cf53 2 := ⟨gic (wt (mt_7 (List.mem_of_getElem? (i := 193) rfl)) rfl) rfl (gic ws_J9_min_7cf53 rfl (gic wn_J9 rfl (gi1 wc_J9_min_7cf53 rfl))), wd_J9_min_7cf53⟩
theorem co_X12_250 : SOk RX12 250 mJ9_max_7cf53 2 := ⟨gic (wt (mt_7 (List.mem_of_getElem? (i := 194) rfl)) rfl) rfl (gic ws_J9_max_7cf53 rfl (gic wn_J9 rfl (gi1 wc_J9_max_7cf53 rfl))), wd_J9_max_7cf53⟩
theorem co_X12_253 : VOk RX12 253 mX12_change 2 := ⟨gic (wt (mt_7 (List.mem_of_getElem? (i := 199) rfl)) rfl) rfl (gic wv_X12_change rfl (gic wz_X12_change rfl (gic wn_X12 rfl (gi1 wc_X12_change rfl)))), wd_X12_change⟩
theorem co_X12_257 : VOk RX12 257 mX12_turnedFirst 0 := ⟨gic (wt (mt_7 (List.mem_of_getElem? (i := 231) rfl)) rfl) rfl (gic wv_X12_turnedFirst rfl (gic wz_X12_turnedFirst rfl (gic wn_X12 rfl (gi1 wc_X12_turnedFirst rfl)))), wd_X12_turnedFirst⟩
theorem co_X12_260 : VOk RX12 260 mX12_faultMany 0 := ⟨gic (wt (mt_8 (List.mem_of_getElem? (i := 212) rfl)) rfl) rfl (gic wv_X12_faultMany rfl (gic wz_X12_faultMany rfl (gic wn_X12 rfl (gi1 wc_X12_faultMany rfl)))), wd_X12_faultMany⟩
theorem co_X12_263 : VOk RX12 263 mX12_touchFirst 0 := ⟨gic (wt (mt_7 (List.mem_of_getElem? (i := 227) rfl)) rfl) rfl (gic wv_X12_touchFirst rfl (gic wz_X12_touchFirst rfl (gic wn_X12 rfl (gi1 wc_X12_touchFirst rfl)))), wd_X12_touchFirst⟩
theorem co_X12_266 : VOk RX12 266 mX12_kindOf 1 := ⟨gic (wt (mt_7 (List.mem_of_getElem? (i := 223) rfl)) rfl) rfl (gic wv_X12_kindOf rfl (gic wz_X12_kindOf rfl (gic wn_X12 rfl (gi1 wc_X12_kindOf rfl)))), wd_X12_kindOf⟩
theorem co_X12_276 : VOk RX12 276 mX12_findFault 1 := ⟨gic (wt (mt_7 (List.mem_of_getElem? (i := 219) rfl)) rfl) rfl (gic wv_X12_findFault rfl (gic wz_X12_findFault rfl (gic wn_X12 rfl (gi1 wc_X12_findFault rfl)))), wd_X12_findFault⟩
theorem co_X12_294 : SOk RX12 294 mX12_has 2 := ⟨gic (wt (mt_8 (List.mem_of_getElem? (i := 7) rfl)) rfl) rfl (gic ws_X12_has rfl (gic wn_X12 rfl (gi1 wc_X12_has rfl))), wd_X12_has⟩
theorem co_X12_3 : Cond.methodLink RX12 3 objectInit ∈ wl := (wt (mt_6 (List.mem_of_getElem? (i := 127) rfl)) rfl)
theorem co_X12_305 : VOk RX12 305 mX12_begin 2 := ⟨gic (wt (mt_8 (List.mem_of_getElem? (i := 3) rfl)) rfl) rfl (gic wv_X12_begin rfl (gic wz_X12_begin rfl (gic wn_X12 rfl (gi1 wc_X12_begin rfl)))), wd_X12_begin⟩
theorem co_X12_309 : VOk RX12 309 mX12_goOn 5 := ⟨gic (wt (mt_8 (List.mem_of_getElem? (i := 10) rfl)) rfl) rfl (gic wv_X12_goOn rfl (gic wz_X12_goOn rfl (gic wn_X12 rfl (gi1 wc_X12_goOn rfl)))), wd_X12_goOn⟩
theorem co_X12_313 : VOk RX12 313 mX12_arrive 4 := ⟨gic (wt (mt_8 (List.mem_of_getElem? (i := 14) rfl)) rfl) rfl (gic wv_X12_arrive rfl (gic wz_X12_arrive rfl (gic wn_X12 rfl (gi1 wc_X12_arrive rfl)))), wd_X12_arrive⟩
theorem co_X12_319 : VOk RX12 319 mX12_ohmsOf 1 := ⟨gic (wt (mt_8 (List.mem_of_getElem? (i := 19) rfl)) rfl) rfl (gic wv_X12_ohmsOf rfl (gic wz_X12_ohmsOf rfl (gic wn_X12 rfl (gi1 wc_X12_ohmsOf rfl)))), wd_X12_ohmsOf⟩
theorem co_X12_322 : SOk RX12 322 mJ9_max_f86c9 2 := ⟨gic (wt (mt_8 (List.mem_of_getElem? (i := 23) rfl)) rfl) rfl (gic ws_J9_max_f86c9 rfl (gic wn_J9 rfl (gi1 wc_J9_max_f86c9 rfl))), wd_J9_max_f86c9⟩
theorem co_X12_325 : VOk RX12 325 mX12_isBetter 2 := ⟨gic (wt (mt_8 (List.mem_of_getElem? (i := 26) rfl)) rfl) rfl (gic wv_X12_isBetter rfl (gic wz_X12_isBetter rfl (gic wn_X12 rfl (gi1 wc_X12_isBetter rfl)))), wd_X12_isBetter⟩
theorem co_X12_337 : VOk RX12 337 mX12_shine 2 := ⟨gic (wt (mt_7 (List.mem_of_getElem? (i := 239) rfl)) rfl) rfl (gic wv_X12_shine rfl (gic wz_X12_shine rfl (gic wn_X12 rfl (gi1 wc_X12_shine rfl)))), wd_X12_shine⟩
theorem co_X12_340 : VOk RX12 340 mX12_isBright 1 := ⟨gic (wt (mt_8 (List.mem_of_getElem? (i := 30) rfl)) rfl) rfl (gic wv_X12_isBright rfl (gic wz_X12_isBright rfl (gic wn_X12 rfl (gi1 wc_X12_isBright rfl)))), wd_X12_isBright⟩
theorem co_X12_343 : VOk RX12 343 mX12_lay 1 := ⟨gic (wt (mt_7 (List.mem_of_getElem? (i := 215) rfl)) rfl) rfl (gic wv_X12_lay rfl (gic wz_X12_lay rfl (gic wn_X12 rfl (gi1 wc_X12_lay rfl)))), wd_X12_lay⟩
theorem co_X12_346 : VOk RX12 346 mX12_glowing 2 := ⟨gic (wt (mt_7 (List.mem_of_getElem? (i := 235) rfl)) rfl) rfl (gic wv_X12_glowing rfl (gic wz_X12_glowing rfl (gic wn_X12 rfl (gi1 wc_X12_glowing rfl)))), wd_X12_glowing⟩
theorem co_X12_350 : VOk RX12 350 mX12_isSetting 2 := ⟨gic (wt (mt_7 (List.mem_of_getElem? (i := 207) rfl)) rfl) rfl (gic wv_X12_isSetting rfl (gic wz_X12_isSetting rfl (gic wn_X12 rfl (gi1 wc_X12_isSetting rfl)))), wd_X12_isSetting⟩
theorem co_X12_353 : VOk RX12 353 mX12_glowingWith 3 := ⟨gic (wt (mt_7 (List.mem_of_getElem? (i := 211) rfl)) rfl) rfl (gic wv_X12_glowingWith rfl (gic wz_X12_glowingWith rfl (gic wn_X12 rfl (gi1 wc_X12_glowingWith rfl)))), wd_X12_glowingWith⟩
theorem co_X12_357 : SOk RX12 357 mJ13_bitCount_95d88 1 := ⟨gic (wt (mt_8 (List.mem_of_getElem? (i := 35) rfl)) rfl) rfl (gic ws_J13_bitCount_95d88 rfl (gic wn_J13 rfl (gi1 wc_J13_bitCount_95d88 rfl))), wd_J13_bitCount_95d88⟩
theorem co_X12_363 : VOk RX12 363 mX12_askedFor 2 := ⟨gic (wt (mt_8 (List.mem_of_getElem? (i := 44) rfl)) rfl) rfl (gic wv_X12_askedFor rfl (gic wz_X12_askedFor rfl (gic wn_X12 rfl (gi1 wc_X12_askedFor rfl)))), wd_X12_askedFor⟩
theorem co_X12_368 : VOk RX12 368 mX12_countAll 1 := ⟨gic (wt (mt_8 (List.mem_of_getElem? (i := 53) rfl)) rfl) rfl (gic wv_X12_countAll rfl (gic wz_X12_countAll rfl (gic wn_X12 rfl (gi1 wc_X12_countAll rfl)))), wd_X12_countAll⟩
theorem co_X12_371 : VOk RX12 371 mX12_tell 1 := ⟨gic (wt (mt_8 (List.mem_of_getElem? (i := 57) rfl)) rfl) rfl (gic wv_X12_tell rfl (gic wz_X12_tell rfl (gic wn_X12 rfl (gi1 wc_X12_tell rfl)))), wd_X12_tell⟩
theorem co_X12_377 : VOk RX12 377 mX12_wiresAt 2 := ⟨gic (wt (mt_8 (List.mem_of_getElem? (i := 102) rfl)) rfl) rfl (gic wv_X12_wiresAt rfl (gic wz_X12_wiresAt rfl (gic wn_X12 rfl (gi1 wc_X12_wiresAt rfl)))), wd_X12_wiresAt⟩
theorem co_X12_380 : VOk RX12 380 mX12_settings 0 := ⟨gic (wt (mt_8 (List.mem_of_getElem? (i := 94) rfl)) rfl) rfl (gic wv_X12_settings rfl (gic wz_X12_settings rfl (gic wn_X12 rfl (gi1 wc_X12_settings rfl)))), wd_X12_settings⟩
theorem co_X12_383 : VOk RX12 383 mX12_highOf 1 := ⟨gic (wt (mt_8 (List.mem_of_getElem? (i := 98) rfl)) rfl) rfl (gic wv_X12_highOf rfl (gic wz_X12_highOf rfl (gic wn_X12 rfl (gi1 wc_X12_highOf rfl)))), wd_X12_highOf⟩
theorem co_X12_386 : VOk RX12 386 mX12_lowOf 1 := ⟨gic (wt (mt_8 (List.mem_of_getElem? (i := 106) rfl)) rfl) rfl (gic wv_X12_lowOf rfl (gic wz_X12_lowOf rfl (gic wn_X12 rfl (gi1 wc_X12_lowOf rfl)))), wd_X12_lowOf⟩
theorem co_X12_389 : VOk RX12 389 mX12_findGlow 2 := ⟨gic (wt (mt_8 (List.mem_of_getElem? (i := 90) rfl)) rfl) rfl (gic wv_X12_findGlow rfl (gic wz_X12_findGlow rfl (gic wn_X12 rfl (gi1 wc_X12_findGlow rfl)))), wd_X12_findGlow⟩
theorem co_X12_393 : VOk RX12 393 mX12_areLamps 1 := ⟨gic (wt (mt_8 (List.mem_of_getElem? (i := 78) rfl)) rfl) rfl (gic wv_X12_areLamps rfl (gic wz_X12_areLamps rfl (gic wn_X12 rfl (gi1 wc_X12_areLamps rfl)))), wd_X12_areLamps⟩
theorem co_X12_397 : VOk RX12 397 mX12_canSearch 0 := ⟨gic (wt (mt_8 (List.mem_of_getElem? (i := 82) rfl)) rfl) rfl (gic wv_X12_canSearch rfl (gic wz_X12_canSearch rfl (gic wn_X12 rfl (gi1 wc_X12_canSearch rfl)))), wd_X12_canSearch⟩
theorem co_X12_401 : VOk RX12 401 mX12_findAll 0 := ⟨gic (wt (mt_8 (List.mem_of_getElem? (i := 86) rfl)) rfl) rfl (gic wv_X12_findAll rfl (gic wz_X12_findAll rfl (gic wn_X12 rfl (gi1 wc_X12_findAll rfl)))), wd_X12_findAll⟩
theorem co_X12_404 : SOk RX12 404 mJ13_numberOfTrailingZeros_95d88 1 := ⟨gic (wt (mt_8 (List.mem_of_getElem? (i := 114) rfl)) rfl) rfl (gic ws_J13_numberOfTrailingZeros_95d88 rfl (gic wn_J13 rfl (gi1 wc_J13_numberOfTrailingZeros_95d88 rfl))), wd_J13_numberOfTrailingZeros_95d88⟩
theorem co_X12_412 : VOk RX12 412 mX12_isTurn 2 := ⟨gic (wt (mt_8 (List.mem_of_getElem? (i := 160) rfl)) rfl) rfl (gic wv_X12_isTurn rfl (gic wz_X12_isTurn rfl (gic wn_X12 rfl (gi1 wc_X12_isTurn rfl)))), wd_X12_isTurn⟩
theorem co_X12_416 : VOk RX12 416 mX12_findTurns 1 := ⟨gic (wt (mt_8 (List.mem_of_getElem? (i := 156) rfl)) rfl) rfl (gic wv_X12_findTurns rfl (gic wz_X12_findTurns rfl (gic wn_X12 rfl (gi1 wc_X12_findTurns rfl)))), wd_X12_findTurns⟩
theorem co_X12_420 : SOk RX12 420 mJ6_numberOfTrailingZeros_0f7a4 1 := ⟨gic (wt (mt_8 (List.mem_of_getElem? (i := 165) rfl)) rfl) rfl (gic ws_J6_numberOfTrailingZeros_0f7a4 rfl (gic wn_J6 rfl (gi1 wc_J6_numberOfTrailingZeros_0f7a4 rfl))), wd_J6_numberOfTrailingZeros_0f7a4⟩
theorem co_X12_427 : VOk RX12 427 mX12_refusal 1 := ⟨gic (wt (mt_8 (List.mem_of_getElem? (i := 148) rfl)) rfl) rfl (gic wv_X12_refusal rfl (gic wz_X12_refusal rfl (gic wn_X12 rfl (gi1 wc_X12_refusal rfl)))), wd_X12_refusal⟩
theorem co_X12_430 : VOk RX12 430 mX12_findParted 1 := ⟨gic (wt (mt_8 (List.mem_of_getElem? (i := 152) rfl)) rfl) rfl (gic wv_X12_findParted rfl (gic wz_X12_findParted rfl (gic wn_X12 rfl (gi1 wc_X12_findParted rfl)))), wd_X12_findParted⟩
theorem co_X12_433 : VOk RX12 433 mX12_tellTurns 0 := ⟨gic (wt (mt_8 (List.mem_of_getElem? (i := 166) rfl)) rfl) rfl (gic wv_X12_tellTurns rfl (gic wz_X12_tellTurns rfl (gic wn_X12 rfl (gi1 wc_X12_tellTurns rfl)))), wd_X12_tellTurns⟩
theorem co_X12_436 : SOk RX12 436 mJ6_bitCount_0f7a4 1 := ⟨gic (wt (mt_8 (List.mem_of_getElem? (i := 174) rfl)) rfl) rfl (gic ws_J6_bitCount_0f7a4 rfl (gic wn_J6 rfl (gi1 wc_J6_bitCount_0f7a4 rfl))), wd_J6_bitCount_0f7a4⟩
theorem co_X12_441 : VOk RX12 441 mX12_changed 2 := ⟨gic (wt (mt_8 (List.mem_of_getElem? (i := 187) rfl)) rfl) rfl (gic wv_X12_changed rfl (gic wz_X12_changed rfl (gic wn_X12 rfl (gi1 wc_X12_changed rfl)))), wd_X12_changed⟩
theorem co_X12_444 : VOk RX12 444 mX12_goOrders 4 := ⟨gic (wt (mt_8 (List.mem_of_getElem? (i := 183) rfl)) rfl) rfl (gic wv_X12_goOrders rfl (gic wz_X12_goOrders rfl (gic wn_X12 rfl (gi1 wc_X12_goOrders rfl)))), wd_X12_goOrders⟩
theorem co_X12_447 : VOk RX12 447 mX12_sumOf 1 := ⟨gic (wt (mt_8 (List.mem_of_getElem? (i := 200) rfl)) rfl) rfl (gic wv_X12_sumOf rfl (gic wz_X12_sumOf rfl (gic wn_X12 rfl (gi1 wc_X12_sumOf rfl)))), wd_X12_sumOf⟩
theorem co_X12_453 : VOk RX12 453 mX12_dimmest 0 := ⟨gic (wt (mt_8 (List.mem_of_getElem? (i := 196) rfl)) rfl) rfl (gic wv_X12_dimmest rfl (gic wz_X12_dimmest rfl (gic wn_X12 rfl (gi1 wc_X12_dimmest rfl)))), wd_X12_dimmest⟩
theorem co_X12_456 : VOk RX12 456 mX12_isFault 1 := ⟨gic (wt (mt_8 (List.mem_of_getElem? (i := 220) rfl)) rfl) rfl (gic wv_X12_isFault rfl (gic wz_X12_isFault rfl (gic wn_X12 rfl (gi1 wc_X12_isFault rfl)))), wd_X12_isFault⟩
theorem co_X12_459 : VOk RX12 459 mX12_firstUnlike 0 := ⟨gic (wt (mt_8 (List.mem_of_getElem? (i := 236) rfl)) rfl) rfl (gic wv_X12_firstUnlike rfl (gic wz_X12_firstUnlike rfl (gic wn_X12 rfl (gi1 wc_X12_firstUnlike rfl)))), wd_X12_firstUnlike⟩
theorem co_X12_465 : VOk RX12 465 mX12_bar 1 := ⟨gic (wt (mt_9 (List.mem_of_getElem? (i := 20) rfl)) rfl) rfl (gic wv_X12_bar rfl (gic wz_X12_bar rfl (gic wn_X12 rfl (gi1 wc_X12_bar rfl)))), wd_X12_bar⟩
theorem co_X12_468 : VOk RX12 468 mX12_findAgreed 0 := ⟨gic (wt (mt_9 (List.mem_of_getElem? (i := 16) rfl)) rfl) rfl (gic wv_X12_findAgreed rfl (gic wz_X12_findAgreed rfl (gic wn_X12 rfl (gi1 wc_X12_findAgreed rfl)))), wd_X12_findAgreed⟩
theorem co_X12_471 : VOk RX12 471 mX12_firstOf 2 := ⟨gic (wt (mt_9 (List.mem_of_getElem? (i := 44) rfl)) rfl) rfl (gic wv_X12_firstOf rfl (gic wz_X12_firstOf rfl (gic wn_X12 rfl (gi1 wc_X12_firstOf rfl)))), wd_X12_firstOf⟩
theorem co_X12_474 : VOk RX12 474 mX12_areAlike 3 := ⟨gic (wt (mt_9 (List.mem_of_getElem? (i := 56) rfl)) rfl) rfl (gic wv_X12_areAlike rfl (gic wz_X12_areAlike rfl (gic wn_X12 rfl (gi1 wc_X12_areAlike rfl)))), wd_X12_areAlike⟩
theorem co_X12_478 : VOk RX12 478 mX12_parts 3 := ⟨gic (wt (mt_9 (List.mem_of_getElem? (i := 52) rfl)) rfl) rfl (gic wv_X12_parts rfl (gic wz_X12_parts rfl (gic wn_X12 rfl (gi1 wc_X12_parts rfl)))), wd_X12_parts⟩
theorem co_X12_481 : VOk RX12 481 mX12_depthBy 3 := ⟨gic (wt (mt_9 (List.mem_of_getElem? (i := 60) rfl)) rfl) rfl (gic wv_X12_depthBy rfl (gic wz_X12_depthBy rfl (gic wn_X12 rfl (gi1 wc_X12_depthBy rfl)))), wd_X12_depthBy⟩
theorem co_X12_484 : VOk RX12 484 mX12_depthOf 2 := ⟨gic (wt (mt_9 (List.mem_of_getElem? (i := 48) rfl)) rfl) rfl (gic wv_X12_depthOf rfl (gic wz_X12_depthOf rfl (gic wn_X12 rfl (gi1 wc_X12_depthOf rfl)))), wd_X12_depthOf⟩
theorem co_X12_487 : VOk RX12 487 mX12_findAnswers 0 := ⟨gic (wt (mt_9 (List.mem_of_getElem? (i := 40) rfl)) rfl) rfl (gic wv_X12_findAnswers rfl (gic wz_X12_findAnswers rfl (gic wn_X12 rfl (gi1 wc_X12_findAnswers rfl)))), wd_X12_findAnswers⟩
theorem co_X12_490 : VOk RX12 490 mX12_firstTest 2 := ⟨gic (wt (mt_9 (List.mem_of_getElem? (i := 64) rfl)) rfl) rfl (gic wv_X12_firstTest rfl (gic wz_X12_firstTest rfl (gic wn_X12 rfl (gi1 wc_X12_firstTest rfl)))), wd_X12_firstTest⟩
theorem co_J13_311 : SOk RJ13 311 mJ6_numberOfTrailingZeros_0f7a4 1 := ⟨gic (wt (mt_4 (List.mem_of_getElem? (i := 1) rfl)) rfl) rfl (gic ws_J6_numberOfTrailingZeros_0f7a4 rfl (gic wn_J6 rfl (gi1 wc_J6_numberOfTrailingZeros_0f7a4 rfl))), wd_J6_numberOfTrailingZeros_0f7a4⟩
theorem co_J7_13 : SOk RJ7 13 mJ7_rangeCheck_23922 3 := ⟨gic (wt (mt_4 (List.mem_of_getElem? (i := 197) rfl)) rfl) rfl (gic ws_J7_rangeCheck_23922 rfl (gic wn_J7 rfl (gi1 wc_J7_rangeCheck_23922 rfl))), wd_J7_rangeCheck_23922⟩

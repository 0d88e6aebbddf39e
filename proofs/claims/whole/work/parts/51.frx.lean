/-! what the computations may change: J7 X0 X1 X2 X3 X4 X5 X6 X7 X8 X9 X10 X11 -/
def wi_X9_append : Pl := [(8, some 1), (9, none)]
def wj_X9_append : Pl := []
def wi_X11_sign : Pl := [(8, some 1), (9, none)]
def wj_X11_sign : Pl := []
def wi_X11_end : Pl := [(8, some 1)]
def wj_X11_end : Pl := []
def wi_X6_fail : Pl := [(10, some 10)]
def wj_X6_fail : Pl := []
def wi_X6_takeNumber : Pl := [(10, some 9), (10, some 10)]
def wj_X6_takeNumber : Pl := []
def wi_X6_note : Pl := [(10, some 5), (10, some 10), (11, none), (12, none), (13, none), (14, none)]
def wj_X6_note : Pl := []
def wi_X6_readWidth : Pl := [(10, some 5), (10, some 6), (10, some 7), (10, some 9), (10, some 10), (11, none), (12, none), (13, none), (14, none)]
def wj_X6_readWidth : Pl := []
def wi_X6_takeWire : Pl := [(10, some 9), (10, some 10)]
def wj_X6_takeWire : Pl := []
def wi_X6_take : Pl := [(10, some 9), (10, some 10)]
def wj_X6_take : Pl := []
def wi_X6_readOhms : Pl := [(10, some 5), (10, some 9), (10, some 10), (11, none), (12, none), (13, none), (14, none)]
def wj_X6_readOhms : Pl := []
def wi_X6_readLamp : Pl := [(10, some 5), (10, some 7), (10, some 9), (10, some 10), (11, none), (12, none), (13, none), (14, none)]
def wj_X6_readLamp : Pl := []
def wi_X6_readLine : Pl := [(10, some 5), (10, some 6), (10, some 7), (10, some 9), (10, some 10), (11, none), (12, none), (13, none), (14, none)]
def wj_X6_readLine : Pl := []
def wi_X6_goesOn : Pl := [(10, some 9), (10, some 10)]
def wj_X6_goesOn : Pl := []
def wi_X6_read : Pl := [(10, some 5), (10, some 6), (10, some 7), (10, some 8), (10, some 9), (10, some 10), (11, none), (12, none), (13, none), (14, none)]
def wj_X6_read : Pl := []
def wi_J7_fill_d0a16_6 : Pl := []
def wj_J7_fill_d0a16_6 : Pl := [(6, none)]
def wi_J7_fill_d0a16_7 : Pl := []
def wj_J7_fill_d0a16_7 : Pl := [(7, none)]
def wi_X0_rewire : Pl := []
def wj_X0_rewire : Pl := [(6, none), (7, none)]
def wi_X0_startAnew : Pl := [(1, some 0), (1, some 1)]
def wj_X0_startAnew : Pl := [(6, none), (7, none)]
def wi_J7_fill_d0a16_26 : Pl := []
def wj_J7_fill_d0a16_26 : Pl := [(26, none)]
def wi_X3_clear_25 : Pl := [(25, some 0), (25, some 1), (25, some 3)]
def wj_X3_clear_25 : Pl := [(26, none)]
def wi_X0_resist : Pl := [(2, none)]
def wj_X0_resist : Pl := []
def wi_X0_add : Pl := [(1, some 1), (3, none), (4, none), (5, none)]
def wj_X0_add : Pl := [(6, none), (7, none)]
def wi_X11_takeLine : Pl := [(1, some 0), (1, some 1), (2, none), (3, none), (4, none), (5, none), (25, some 0), (25, some 1), (25, some 3), (52, some 3), (63, some 0), (72, some 0)]
def wj_X11_takeLine : Pl := [(6, none), (7, none), (26, none)]
def wi_X11_board : Pl := [(1, some 0), (1, some 1), (2, none), (3, none), (4, none), (5, none), (8, some 1), (10, some 5), (10, some 6), (10, some 7), (10, some 8), (10, some 9), (10, some 10), (11, none), (12, none), (13, none), (14, none), (25, some 0), (25, some 1), (25, some 3), (30, some 8), (52, some 3), (63, some 0), (72, some 0)]
def wj_X11_board : Pl := [(6, none), (7, none), (26, none)]
def wi_X11_set : Pl := [(1, some 2), (1, some 3), (1, some 4), (30, some 8)]
def wj_X11_set : Pl := []
def wi_X11_sheet : Pl := [(5, none), (30, some 8)]
def wj_X11_sheet : Pl := []
def wi_X0_trade : Pl := [(3, none), (4, none)]
def wj_X0_trade : Pl := [(6, none), (7, none)]
def wi_X11_swap : Pl := [(3, none), (4, none), (30, some 8)]
def wj_X11_swap : Pl := [(6, none), (7, none)]
def wi_X1_lay : Pl := [(17, some 8), (17, some 9), (17, some 10), (17, some 11), (18, none)]
def wj_X1_lay : Pl := [(19, none), (20, none)]
def wi_J7_fill_d0a16_22 : Pl := []
def wj_J7_fill_d0a16_22 : Pl := [(22, none)]
def wi_X1_putOut : Pl := []
def wj_X1_putOut : Pl := [(17, some 15), (21, none), (22, none)]
def wi_X1_noteWay : Pl := [(17, some 17), (17, some 19), (24, none)]
def wj_X1_noteWay : Pl := [(17, some 18)]
def wi_X1_carry : Pl := [(17, some 17), (17, some 19), (24, none)]
def wj_X1_carry : Pl := [(17, some 15), (17, some 18), (21, none), (22, none)]
def wi_X1_follow : Pl := [(17, some 17), (17, some 19), (23, none), (24, none)]
def wj_X1_follow : Pl := [(17, some 15), (17, some 18), (21, none), (22, none)]
def wi_X1_run : Pl := [(17, some 17), (17, some 19), (23, none), (24, none)]
def wj_X1_run : Pl := [(17, some 13), (17, some 14), (17, some 15), (17, some 18), (21, none), (22, none)]
def wi_X1_glowing : Pl := [(17, some 8), (17, some 9), (17, some 10), (17, some 11), (17, some 17), (17, some 19), (18, none), (23, none), (24, none)]
def wj_X1_glowing : Pl := [(17, some 13), (17, some 14), (17, some 15), (17, some 18), (19, none), (20, none), (21, none), (22, none)]
def wi_X11_put : Pl := [(17, some 8), (17, some 9), (17, some 10), (17, some 11), (17, some 17), (17, some 19), (18, none), (23, none), (24, none), (25, some 0), (25, some 1)]
def wj_X11_put : Pl := [(17, some 13), (17, some 14), (17, some 15), (17, some 18), (19, none), (20, none), (21, none), (22, none)]
def wi_X11_glows : Pl := [(17, some 8), (17, some 9), (17, some 10), (17, some 11), (17, some 17), (17, some 19), (18, none), (23, none), (24, none)]
def wj_X11_glows : Pl := [(17, some 13), (17, some 14), (17, some 15), (17, some 18), (19, none), (20, none), (21, none), (22, none)]
def wi_X11_ghosts : Pl := [(17, some 8), (17, some 9), (17, some 10), (17, some 11), (17, some 17), (17, some 19), (18, none), (23, none), (24, none)]
def wj_X11_ghosts : Pl := [(17, some 13), (17, some 14), (17, some 15), (17, some 18), (19, none), (20, none), (21, none), (22, none)]
def wi_X1_watch : Pl := [(17, some 8), (17, some 9), (17, some 10), (17, some 11), (17, some 16), (17, some 17), (17, some 19), (18, none), (23, none), (24, none)]
def wj_X1_watch : Pl := [(17, some 13), (17, some 14), (17, some 15), (17, some 18), (19, none), (20, none), (21, none), (22, none)]
def wi_X10_clear : Pl := [(15, some 1)]
def wj_X10_clear : Pl := []
def wi_X10_add : Pl := [(15, some 1)]
def wj_X10_add : Pl := [(16, none)]
def wi_X11_light : Pl := [(15, some 1), (17, some 8), (17, some 9), (17, some 10), (17, some 11), (17, some 16), (17, some 17), (17, some 19), (18, none), (23, none), (24, none)]
def wj_X11_light : Pl := [(16, none), (17, some 13), (17, some 14), (17, some 15), (17, some 18), (19, none), (20, none), (21, none), (22, none)]
def wi_X11_why : Pl := [(15, some 1), (17, some 8), (17, some 9), (17, some 10), (17, some 11), (17, some 16), (17, some 17), (17, some 19), (18, none), (23, none), (24, none)]
def wj_X11_why : Pl := [(16, none), (17, some 13), (17, some 14), (17, some 15), (17, some 18), (19, none), (20, none), (21, none), (22, none)]
def wi_X11_draws : Pl := [(17, some 8), (17, some 9), (17, some 10), (17, some 11), (17, some 17), (17, some 19), (18, none), (23, none), (24, none)]
def wj_X11_draws : Pl := [(17, some 13), (17, some 14), (17, some 15), (17, some 18), (19, none), (20, none), (21, none), (22, none)]
def wi_X11_brightest : Pl := [(15, some 1), (17, some 8), (17, some 9), (17, some 10), (17, some 11), (17, some 17), (17, some 19), (18, none), (23, none), (24, none)]
def wj_X11_brightest : Pl := [(16, none), (17, some 13), (17, some 14), (17, some 15), (17, some 18), (19, none), (20, none), (21, none), (22, none)]
def wi_X8_refresh : Pl := [(17, some 8), (17, some 9), (17, some 10), (17, some 11), (17, some 17), (17, some 19), (18, none), (23, none), (24, none), (30, some 7), (30, some 8), (31, none), (32, none), (34, none)]
def wj_X8_refresh : Pl := [(17, some 13), (17, some 14), (17, some 15), (17, some 18), (19, none), (20, none), (21, none), (22, none), (33, none)]
def wi_X11_openTable : Pl := [(17, some 8), (17, some 9), (17, some 10), (17, some 11), (17, some 17), (17, some 19), (18, none), (23, none), (24, none), (30, some 7), (30, some 8), (31, none), (32, none), (34, none)]
def wj_X11_openTable : Pl := [(17, some 13), (17, some 14), (17, some 15), (17, some 18), (19, none), (20, none), (21, none), (22, none), (33, none)]
def wi_X11_shows : Pl := [(15, some 1), (17, some 8), (17, some 9), (17, some 10), (17, some 11), (17, some 17), (17, some 19), (18, none), (23, none), (24, none), (30, some 7), (30, some 8), (31, none), (32, none), (34, none)]
def wj_X11_shows : Pl := [(16, none), (17, some 13), (17, some 14), (17, some 15), (17, some 18), (19, none), (20, none), (21, none), (22, none), (33, none)]
def wi_X11_bars : Pl := [(15, some 1), (17, some 8), (17, some 9), (17, some 10), (17, some 11), (17, some 17), (17, some 19), (18, none), (23, none), (24, none), (30, some 7), (30, some 8), (31, none), (32, none), (34, none)]
def wj_X11_bars : Pl := [(16, none), (17, some 13), (17, some 14), (17, some 15), (17, some 18), (19, none), (20, none), (21, none), (22, none), (33, none)]
def wi_X11_most : Pl := [(15, some 1), (17, some 8), (17, some 9), (17, some 10), (17, some 11), (17, some 17), (17, some 19), (18, none), (23, none), (24, none), (30, some 7), (30, some 8), (31, none), (32, none), (34, none)]
def wj_X11_most : Pl := [(16, none), (17, some 13), (17, some 14), (17, some 15), (17, some 18), (19, none), (20, none), (21, none), (22, none), (33, none)]
def wi_J7_fill_53178_35 : Pl := [(35, none)]
def wj_J7_fill_53178_35 : Pl := []
def wi_X8_enter : Pl := [(35, none)]
def wj_X8_enter : Pl := []
def wi_X8_newSets : Pl := [(35, none)]
def wj_X8_newSets : Pl := []
def wi_X11_sets : Pl := [(15, some 1), (17, some 8), (17, some 9), (17, some 10), (17, some 11), (17, some 17), (17, some 19), (18, none), (23, none), (24, none), (30, some 7), (30, some 8), (31, none), (32, none), (34, none), (35, none)]
def wj_X11_sets : Pl := [(16, none), (17, some 13), (17, some 14), (17, some 15), (17, some 18), (19, none), (20, none), (21, none), (22, none), (33, none)]
def wi_X11_fits : Pl := [(17, some 8), (17, some 9), (17, some 10), (17, some 11), (17, some 17), (17, some 19), (18, none), (23, none), (24, none), (30, some 7), (30, some 8), (31, none), (32, none), (34, none)]
def wj_X11_fits : Pl := [(17, some 13), (17, some 14), (17, some 15), (17, some 18), (19, none), (20, none), (21, none), (22, none), (33, none)]
def wi_X11_alone : Pl := [(17, some 8), (17, some 9), (17, some 10), (17, some 11), (17, some 17), (17, some 19), (18, none), (23, none), (24, none), (30, some 7), (30, some 8), (31, none), (32, none), (34, none)]
def wj_X11_alone : Pl := [(17, some 13), (17, some 14), (17, some 15), (17, some 18), (19, none), (20, none), (21, none), (22, none), (33, none)]
def wi_X11_twins : Pl := [(15, some 1), (17, some 8), (17, some 9), (17, some 10), (17, some 11), (17, some 17), (17, some 19), (18, none), (23, none), (24, none), (30, some 7), (30, some 8), (31, none), (32, none), (34, none)]
def wj_X11_twins : Pl := [(16, none), (17, some 13), (17, some 14), (17, some 15), (17, some 18), (19, none), (20, none), (21, none), (22, none), (33, none)]
def wi_X11_range : Pl := [(1, some 2), (17, some 8), (17, some 9), (17, some 10), (17, some 11), (17, some 17), (17, some 19), (18, none), (23, none), (24, none)]
def wj_X11_range : Pl := [(17, some 13), (17, some 14), (17, some 15), (17, some 18), (19, none), (20, none), (21, none), (22, none)]
def wi_X11_picture : Pl := []
def wj_X11_picture : Pl := [(26, none)]
def wi_X4_open : Pl := [(36, some 3), (37, none), (38, none)]
def wj_X4_open : Pl := []
def wi_X11_openParting : Pl := [(17, some 8), (17, some 9), (17, some 10), (17, some 11), (17, some 17), (17, some 19), (18, none), (23, none), (24, none), (30, some 7), (30, some 8), (31, none), (32, none), (34, none), (36, some 3), (37, none), (38, none)]
def wj_X11_openParting : Pl := [(17, some 13), (17, some 14), (17, some 15), (17, some 18), (19, none), (20, none), (21, none), (22, none), (33, none)]
def wi_X4_addWidest : Pl := [(36, some 6), (39, none)]
def wj_X4_addWidest : Pl := []
def wi_X4_findWidest : Pl := [(36, some 6), (39, none)]
def wj_X4_findWidest : Pl := []
def wi_J7_fill_fda19_40 : Pl := [(40, none)]
def wj_J7_fill_fda19_40 : Pl := []
def wi_X4_fewestFor : Pl := [(40, none)]
def wj_X4_fewestFor : Pl := []
def wi_X4_choose : Pl := [(40, none), (42, none)]
def wj_X4_choose : Pl := []
def wi_X4_part : Pl := [(36, some 6), (36, some 10), (39, none), (40, none), (42, none)]
def wj_X4_part : Pl := []
def wi_X11_partInto : Pl := [(17, some 8), (17, some 9), (17, some 10), (17, some 11), (17, some 17), (17, some 19), (18, none), (23, none), (24, none), (30, some 7), (30, some 8), (31, none), (32, none), (34, none), (36, some 3), (36, some 6), (36, some 10), (37, none), (38, none), (39, none), (40, none), (42, none)]
def wj_X11_partInto : Pl := [(17, some 13), (17, some 14), (17, some 15), (17, some 18), (19, none), (20, none), (21, none), (22, none), (33, none)]
def wi_X11_tellTurns_42 : Pl := [(15, some 1)]
def wj_X11_tellTurns_42 : Pl := [(16, none)]
def wi_X11_parted : Pl := [(15, some 1), (17, some 8), (17, some 9), (17, some 10), (17, some 11), (17, some 17), (17, some 19), (18, none), (23, none), (24, none), (30, some 7), (30, some 8), (31, none), (32, none), (34, none), (36, some 3), (36, some 6), (36, some 10), (37, none), (38, none), (39, none), (40, none), (42, none)]
def wj_X11_parted : Pl := [(16, none), (17, some 13), (17, some 14), (17, some 15), (17, some 18), (19, none), (20, none), (21, none), (22, none), (33, none)]
def wi_J7_fill_53178_41 : Pl := [(41, none)]
def wj_J7_fill_53178_41 : Pl := []
def wi_X4_findNear : Pl := [(41, none)]
def wj_X4_findNear : Pl := []
def wi_X4_mostApart : Pl := [(41, none)]
def wj_X4_mostApart : Pl := []
def wi_X11_proof : Pl := [(15, some 1), (17, some 8), (17, some 9), (17, some 10), (17, some 11), (17, some 17), (17, some 19), (18, none), (23, none), (24, none), (30, some 7), (30, some 8), (31, none), (32, none), (34, none), (36, some 3), (37, none), (38, none), (41, none)]
def wj_X11_proof : Pl := [(16, none), (17, some 13), (17, some 14), (17, some 15), (17, some 18), (19, none), (20, none), (21, none), (22, none), (33, none)]
def wi_X11_never : Pl := [(17, some 8), (17, some 9), (17, some 10), (17, some 11), (17, some 17), (17, some 19), (18, none), (23, none), (24, none), (30, some 7), (30, some 8), (31, none), (32, none), (34, none)]
def wj_X11_never : Pl := [(17, some 13), (17, some 14), (17, some 15), (17, some 18), (19, none), (20, none), (21, none), (22, none), (33, none)]
def wi_X4_tryOrder : Pl := [(36, some 13), (43, none), (44, none)]
def wj_X4_tryOrder : Pl := []
def wi_X4_putInOrder : Pl := [(36, some 13), (43, none), (44, none)]
def wj_X4_putInOrder : Pl := []
def wi_X11_tellTurns_43 : Pl := [(15, some 1)]
def wj_X11_tellTurns_43 : Pl := [(16, none)]
def wi_X11_changes : Pl := [(15, some 1), (17, some 8), (17, some 9), (17, some 10), (17, some 11), (17, some 17), (17, some 19), (18, none), (23, none), (24, none), (30, some 7), (30, some 8), (31, none), (32, none), (34, none), (36, some 3), (36, some 6), (36, some 10), (36, some 13), (37, none), (38, none), (39, none), (40, none), (42, none), (43, none), (44, none)]
def wj_X11_changes : Pl := [(16, none), (17, some 13), (17, some 14), (17, some 15), (17, some 18), (19, none), (20, none), (21, none), (22, none), (33, none)]
def wi_J7_fill_d0a16_47 : Pl := []
def wj_J7_fill_d0a16_47 : Pl := [(47, none)]
def wi_X4_takeLights : Pl := [(17, some 8), (17, some 9), (17, some 10), (17, some 11), (17, some 17), (17, some 19), (18, none), (23, none), (24, none)]
def wj_X4_takeLights : Pl := [(17, some 13), (17, some 14), (17, some 15), (17, some 18), (19, none), (20, none), (21, none), (22, none), (46, none), (47, none)]
def wi_X4_giveSlots : Pl := [(17, some 8), (17, some 9), (17, some 10), (17, some 11), (17, some 17), (17, some 19), (18, none), (23, none), (24, none), (45, none)]
def wj_X4_giveSlots : Pl := [(17, some 13), (17, some 14), (17, some 15), (17, some 18), (19, none), (20, none), (21, none), (22, none), (46, none), (47, none)]
def wi_X11_tellTurns_45 : Pl := [(15, some 1)]
def wj_X11_tellTurns_45 : Pl := [(16, none)]
def wi_X11_even : Pl := [(15, some 1), (17, some 8), (17, some 9), (17, some 10), (17, some 11), (17, some 17), (17, some 19), (18, none), (23, none), (24, none), (30, some 7), (30, some 8), (31, none), (32, none), (34, none), (36, some 3), (36, some 6), (36, some 10), (37, none), (38, none), (39, none), (40, none), (42, none), (45, none)]
def wj_X11_even : Pl := [(16, none), (17, some 13), (17, some 14), (17, some 15), (17, some 18), (19, none), (20, none), (21, none), (22, none), (33, none), (46, none), (47, none)]
def wi_X11_partTraded : Pl := [(3, none), (4, none), (17, some 8), (17, some 9), (17, some 10), (17, some 11), (17, some 17), (17, some 19), (18, none), (23, none), (24, none), (30, some 7), (30, some 8), (31, none), (32, none), (34, none), (36, some 3), (36, some 6), (36, some 10), (37, none), (38, none), (39, none), (40, none), (42, none)]
def wj_X11_partTraded : Pl := [(6, none), (7, none), (17, some 13), (17, some 14), (17, some 15), (17, some 18), (19, none), (20, none), (21, none), (22, none), (33, none)]
def wi_X11_better : Pl := [(3, none), (4, none), (15, some 1), (17, some 8), (17, some 9), (17, some 10), (17, some 11), (17, some 17), (17, some 19), (18, none), (23, none), (24, none), (30, some 7), (30, some 8), (31, none), (32, none), (34, none), (36, some 3), (36, some 6), (36, some 10), (37, none), (38, none), (39, none), (40, none), (42, none)]
def wj_X11_better : Pl := [(6, none), (7, none), (16, none), (17, some 13), (17, some 14), (17, some 15), (17, some 18), (19, none), (20, none), (21, none), (22, none), (33, none)]
def wi_X11_faults : Pl := [(15, some 1)]
def wj_X11_faults : Pl := [(16, none)]
def wi_X1_turn : Pl := [(17, some 10)]
def wj_X1_turn : Pl := [(19, none), (20, none)]
def wi_X1_join : Pl := [(17, some 8), (17, some 9), (17, some 11), (17, some 12), (18, none)]
def wj_X1_join : Pl := [(19, none), (20, none)]
def wi_X1_cut : Pl := []
def wj_X1_cut : Pl := [(19, none), (20, none)]
def wi_X7_glowWith : Pl := [(17, some 8), (17, some 9), (17, some 10), (17, some 11), (17, some 12), (17, some 17), (17, some 19), (18, none), (23, none), (24, none)]
def wj_X7_glowWith : Pl := [(17, some 13), (17, some 14), (17, some 15), (17, some 18), (19, none), (20, none), (21, none), (22, none)]
def wi_X11_would : Pl := [(17, some 8), (17, some 9), (17, some 10), (17, some 11), (17, some 12), (17, some 17), (17, some 19), (18, none), (23, none), (24, none)]
def wj_X11_would : Pl := [(17, some 13), (17, some 14), (17, some 15), (17, some 18), (19, none), (20, none), (21, none), (22, none)]
def wi_X7_glowBy : Pl := [(17, some 8), (17, some 9), (17, some 10), (17, some 11), (17, some 12), (17, some 17), (17, some 19), (18, none), (23, none), (24, none)]
def wj_X7_glowBy : Pl := [(17, some 13), (17, some 14), (17, some 15), (17, some 18), (19, none), (20, none), (21, none), (22, none)]
def wi_X7_firstParting : Pl := [(17, some 8), (17, some 9), (17, some 10), (17, some 11), (17, some 12), (17, some 17), (17, some 19), (18, none), (23, none), (24, none)]
def wj_X7_firstParting : Pl := [(17, some 13), (17, some 14), (17, some 15), (17, some 18), (19, none), (20, none), (21, none), (22, none)]
def wi_X11_tells : Pl := [(15, some 1), (17, some 8), (17, some 9), (17, some 10), (17, some 11), (17, some 12), (17, some 17), (17, some 19), (18, none), (23, none), (24, none), (30, some 7), (30, some 8), (31, none), (32, none), (34, none)]
def wj_X11_tells : Pl := [(16, none), (17, some 13), (17, some 14), (17, some 15), (17, some 18), (19, none), (20, none), (21, none), (22, none), (33, none)]
def wi_X11_hidden : Pl := [(15, some 1), (17, some 8), (17, some 9), (17, some 10), (17, some 11), (17, some 12), (17, some 17), (17, some 19), (18, none), (23, none), (24, none), (30, some 7), (30, some 8), (31, none), (32, none), (34, none)]
def wj_X11_hidden : Pl := [(16, none), (17, some 13), (17, some 14), (17, some 15), (17, some 18), (19, none), (20, none), (21, none), (22, none), (33, none)]
def wi_X11_alike : Pl := [(15, some 1), (17, some 8), (17, some 9), (17, some 10), (17, some 11), (17, some 12), (17, some 17), (17, some 19), (18, none), (23, none), (24, none), (30, some 7), (30, some 8), (31, none), (32, none), (34, none)]
def wj_X11_alike : Pl := [(16, none), (17, some 13), (17, some 14), (17, some 15), (17, some 18), (19, none), (20, none), (21, none), (22, none), (33, none)]
def wi_X3_addSeen_25 : Pl := [(25, some 3), (27, none), (28, none)]
def wj_X3_addSeen_25 : Pl := [(29, none)]
def wi_X11_seen : Pl := [(25, some 3), (27, none), (28, none)]
def wj_X11_seen : Pl := [(29, none)]
def wi_X11_forget : Pl := [(25, some 3)]
def wj_X11_forget : Pl := []
def wi_X7_firstAgainst : Pl := [(17, some 8), (17, some 9), (17, some 10), (17, some 11), (17, some 12), (17, some 17), (17, some 19), (18, none), (23, none), (24, none)]
def wj_X7_firstAgainst : Pl := [(17, some 13), (17, some 14), (17, some 15), (17, some 18), (19, none), (20, none), (21, none), (22, none)]
def wi_X7_gather : Pl := [(17, some 8), (17, some 9), (17, some 10), (17, some 11), (17, some 12), (17, some 17), (17, some 19), (18, none), (23, none), (24, none), (48, some 5), (49, none)]
def wj_X7_gather : Pl := [(17, some 13), (17, some 14), (17, some 15), (17, some 18), (19, none), (20, none), (21, none), (22, none)]
def wi_X11_which : Pl := [(15, some 1), (17, some 8), (17, some 9), (17, some 10), (17, some 11), (17, some 12), (17, some 17), (17, some 19), (18, none), (23, none), (24, none), (48, some 5), (49, none)]
def wj_X11_which : Pl := [(16, none), (17, some 13), (17, some 14), (17, some 15), (17, some 18), (19, none), (20, none), (21, none), (22, none)]
def wi_X11_judge : Pl := [(17, some 8), (17, some 9), (17, some 10), (17, some 11), (17, some 12), (17, some 17), (17, some 19), (18, none), (23, none), (24, none)]
def wj_X11_judge : Pl := [(17, some 13), (17, some 14), (17, some 15), (17, some 18), (19, none), (20, none), (21, none), (22, none)]
def wi_X7_joinGroup : Pl := [(48, some 8), (51, none)]
def wj_X7_joinGroup : Pl := [(50, none)]
def wi_X7_leftAtWorst : Pl := [(17, some 8), (17, some 9), (17, some 10), (17, some 11), (17, some 12), (17, some 17), (17, some 19), (18, none), (23, none), (24, none), (48, some 8), (51, none)]
def wj_X7_leftAtWorst : Pl := [(17, some 13), (17, some 14), (17, some 15), (17, some 18), (19, none), (20, none), (21, none), (22, none), (50, none)]
def wi_X11_next : Pl := [(15, some 1), (17, some 8), (17, some 9), (17, some 10), (17, some 11), (17, some 12), (17, some 17), (17, some 19), (18, none), (23, none), (24, none), (30, some 7), (30, some 8), (31, none), (32, none), (34, none), (48, some 5), (48, some 8), (49, none), (51, none)]
def wj_X11_next : Pl := [(16, none), (17, some 13), (17, some 14), (17, some 15), (17, some 18), (19, none), (20, none), (21, none), (22, none), (33, none), (50, none)]
def wi_X5_addTest : Pl := [(52, some 3), (53, none), (54, none)]
def wj_X5_addTest : Pl := []
def wi_X11_test : Pl := [(52, some 3), (53, none), (54, none)]
def wj_X11_test : Pl := []
def wi_X5_findGroup : Pl := [(17, some 8), (17, some 9), (17, some 10), (17, some 11), (17, some 12), (17, some 17), (17, some 19), (18, none), (23, none), (24, none), (52, some 5)]
def wj_X5_findGroup : Pl := [(17, some 13), (17, some 14), (17, some 15), (17, some 18), (19, none), (20, none), (21, none), (22, none), (56, none)]
def wi_X5_partCells : Pl := [(59, none), (129, none)]
def wj_X5_partCells : Pl := []
def wi_J7_fill_53178_57 : Pl := [(57, none)]
def wj_J7_fill_53178_57 : Pl := []
def wi_J7_fill_53178_58 : Pl := [(58, none)]
def wj_J7_fill_53178_58 : Pl := []
def wi_X5_tryTest : Pl := [(58, none), (130, none)]
def wj_X5_tryTest : Pl := []
def wi_X5_reckonDepths : Pl := [(57, none), (58, none), (130, none)]
def wj_X5_reckonDepths : Pl := []
def wi_X5_grow : Pl := [(17, some 8), (17, some 9), (17, some 10), (17, some 11), (17, some 12), (17, some 17), (17, some 19), (18, none), (23, none), (24, none), (52, some 5), (55, none), (57, none), (58, none), (59, none), (129, none), (130, none)]
def wj_X5_grow : Pl := [(17, some 13), (17, some 14), (17, some 15), (17, some 18), (19, none), (20, none), (21, none), (22, none), (56, none)]
def wi_X11_tree : Pl := [(15, some 1), (17, some 8), (17, some 9), (17, some 10), (17, some 11), (17, some 12), (17, some 17), (17, some 19), (18, none), (23, none), (24, none), (48, some 5), (49, none), (52, some 5), (55, none), (57, none), (58, none), (59, none), (129, none), (130, none)]
def wj_X11_tree : Pl := [(16, none), (17, some 13), (17, some 14), (17, some 15), (17, some 18), (19, none), (20, none), (21, none), (22, none), (56, none)]
def wi_X11_path : Pl := [(15, some 1), (17, some 8), (17, some 9), (17, some 10), (17, some 11), (17, some 12), (17, some 17), (17, some 19), (18, none), (23, none), (24, none), (48, some 5), (49, none), (52, some 5), (55, none), (57, none), (58, none), (59, none), (129, none), (130, none)]
def wj_X11_path : Pl := [(16, none), (17, some 13), (17, some 14), (17, some 15), (17, some 18), (19, none), (20, none), (21, none), (22, none), (56, none)]
def wi_X3_copyFrom_76_25 : Pl := [(76, some 0), (76, some 1), (76, some 3), (78, none), (79, none)]
def wj_X3_copyFrom_76_25 : Pl := [(77, none), (80, none)]
def wi_X2_take_72_1_25 : Pl := [(72, some 0), (72, some 1), (73, none), (74, none), (75, none), (76, some 0), (76, some 1), (76, some 3), (78, none), (79, none)]
def wj_X2_take_72_1_25 : Pl := [(77, none), (80, none)]
def wi_X3_copyFrom_67_25 : Pl := [(67, some 0), (67, some 1), (67, some 3), (69, none), (70, none)]
def wj_X3_copyFrom_67_25 : Pl := [(68, none), (71, none)]
def wi_X2_take_63_1_25 : Pl := [(63, some 0), (63, some 1), (64, none), (65, none), (66, none), (67, some 0), (67, some 1), (67, some 3), (69, none), (70, none)]
def wj_X2_take_63_1_25 : Pl := [(68, none), (71, none)]
def wi_X11_keep : Pl := [(63, some 0), (63, some 1), (64, none), (65, none), (66, none), (67, some 0), (67, some 1), (67, some 3), (69, none), (70, none), (72, some 0), (72, some 1), (73, none), (74, none), (75, none), (76, some 0), (76, some 1), (76, some 3), (78, none), (79, none)]
def wj_X11_keep : Pl := [(68, none), (71, none), (77, none), (80, none)]
def wi_X3_copyFrom_25_76 : Pl := [(25, some 0), (25, some 1), (25, some 3), (27, none), (28, none)]
def wj_X3_copyFrom_25_76 : Pl := [(26, none), (29, none)]
def wi_X2_give_72_1_25 : Pl := [(1, some 1), (3, none), (4, none), (5, none), (25, some 0), (25, some 1), (25, some 3), (27, none), (28, none)]
def wj_X2_give_72_1_25 : Pl := [(6, none), (7, none), (26, none), (29, none)]
def wi_X3_copyFrom_25_67 : Pl := [(25, some 0), (25, some 1), (25, some 3), (27, none), (28, none)]
def wj_X3_copyFrom_25_67 : Pl := [(26, none), (29, none)]
def wi_X2_give_63_1_25 : Pl := [(1, some 1), (3, none), (4, none), (5, none), (25, some 0), (25, some 1), (25, some 3), (27, none), (28, none)]
def wj_X2_give_63_1_25 : Pl := [(6, none), (7, none), (26, none), (29, none)]
def wi_X11_again : Pl := [(1, some 1), (3, none), (4, none), (5, none), (25, some 0), (25, some 1), (25, some 3), (27, none), (28, none), (30, some 8)]
def wj_X11_again : Pl := [(6, none), (7, none), (26, none), (29, none)]
theorem fr_X9_append_L19 (I0 : HI) (J0 : HJ) (l1 : Int32) (J : HJ) (hJ : Sm wj_X9_append J0 J) : ∀ (K : Nat) (l2 : Int32) (I : HI) (hI : Sm wi_X9_append I0 I), Fo wi_X9_append wj_X9_append I0 J0 (F_X9_append_L19 l1 J K l2 I) := by
  intro K
  induction K with
  | zero => intro l2 I hI; exact Fo.none
  | succ K ih =>
    intro l2 I hI
    rw [F_X9_append_L19]
    refine Fo.ite ?_ ?_
    · exact Fo.some hI hJ
    · refine Fo.gbx ?_
      refine Fo.lui rfl hI (fun I3 hI3 => ?_)
      refine Fo.lui rfl hI3 (fun I4 hI4 => ?_)
      exact ih _ _ hI4
theorem fr_X9_append (l1 : Int32) (I : HI) (J : HJ) : Fo wi_X9_append wj_X9_append I J (F_X9_append l1 I J) := by
  suffices key : ∀ (I0 : HI) (J0 : HJ), Sm wi_X9_append I0 I → Sm wj_X9_append J0 J → Fo wi_X9_append wj_X9_append I0 J0 (F_X9_append l1 I J) from key I J Sm.rf Sm.rf
  intro I0 J0 hI hJ
  unfold F_X9_append
  refine Fo.ite ?_ ?_
  · refine fr_X9_append_L19 _ _ _ _ hJ bgf _ _ hI
  · exact Fo.some hI hJ
theorem fr_X11_sign (l1 : Int32) (I : HI) (J : HJ) : Fo wi_X11_sign wj_X11_sign I J (F_X11_sign l1 I J) := by
  suffices key : ∀ (I0 : HI) (J0 : HJ), Sm wi_X11_sign I0 I → Sm wj_X11_sign J0 J → Fo wi_X11_sign wj_X11_sign I0 J0 (F_X11_sign l1 I J) from key I J Sm.rf Sm.rf
  intro I0 J0 hI hJ
  unfold F_X11_sign
  refine Fo.call (fr_X9_append l1 I J) (by decide) (by decide) hI hJ (fun r1 I2 J3 hI2 hJ3 => ?_)
  refine Fo.ite ?_ ?_
  · exact Fo.some hI2 hJ3
  · exact Fo.some hI2 hJ3
theorem fr_X11_end (l1 : Int32) (I : HI) (J : HJ) : Fo wi_X11_end wj_X11_end I J (F_X11_end l1 I J) := by
  suffices key : ∀ (I0 : HI) (J0 : HJ), Sm wi_X11_end I0 I → Sm wj_X11_end J0 J → Fo wi_X11_end wj_X11_end I0 J0 (F_X11_end l1 I J) from key I J Sm.rf Sm.rf
  intro I0 J0 hI hJ
  unfold F_X11_end
  refine Fo.ite ?_ ?_
  · exact Fo.some hI hJ
  · refine Fo.ite ?_ ?_
    · refine Fo.lui rfl hI (fun I2 hI2 => ?_)
      exact Fo.some hI2 hJ
    · exact Fo.some hI hJ
theorem fr_X6_fail (l1 : Int32) (I : HI) (J : HJ) : Fo wi_X6_fail wj_X6_fail I J (F_X6_fail l1 I J) := by
  suffices key : ∀ (I0 : HI) (J0 : HJ), Sm wi_X6_fail I0 I → Sm wj_X6_fail J0 J → Fo wi_X6_fail wj_X6_fail I0 J0 (F_X6_fail l1 I J) from key I J Sm.rf Sm.rf
  intro I0 J0 hI hJ
  unfold F_X6_fail
  refine Fo.lui rfl hI (fun I2 hI2 => ?_)
  exact Fo.some hI2 hJ
theorem fr_X6_takeNumber (l1 : Int32) (l2 : Int32) (I : HI) (J : HJ) : Fo wi_X6_takeNumber wj_X6_takeNumber I J (F_X6_takeNumber l1 l2 I J) := by
  suffices key : ∀ (I0 : HI) (J0 : HJ), Sm wi_X6_takeNumber I0 I → Sm wj_X6_takeNumber J0 J → Fo wi_X6_takeNumber wj_X6_takeNumber I0 J0 (F_X6_takeNumber l1 l2 I J) from key I J Sm.rf Sm.rf
  intro I0 J0 hI hJ
  unfold F_X6_takeNumber
  refine Fo.callp (fun r5 => ?_)
  refine Fo.ite ?_ ?_
  · refine Fo.call (fr_X6_fail (I x_reader f_Reader_at) I J) (by decide) (by decide) hI hJ (fun r18 I19 J20 hI19 hJ20 => ?_)
    exact Fo.some hI19 hJ20
  · refine Fo.gbx ?_
    refine Fo.lbv (fun x6 => ?_)
    refine Fo.lui rfl hI (fun I7 hI7 => ?_)
    refine Fo.callp (fun r8 => ?_)
    refine Fo.jn (fun j => ∀ (y9 : Int32) (I10 : HI), Sm wi_X6_takeNumber I0 I10 → Fo wi_X6_takeNumber wj_X6_takeNumber I0 J0 (j y9 I10)) (fun y9 I10 hI10 => ?_) (fun j11 hj11 => ?_)
    · refine Fo.jn (fun j => Fo wi_X6_takeNumber wj_X6_takeNumber I0 J0 (j)) ?_ (fun j12 hj12 => ?_)
      · refine Fo.call (fr_X6_fail ((I10 x_reader f_Reader_at) - (1 : Int32)) I10 J) (by decide) (by decide) hI10 hJ (fun r13 I14 J15 hI14 hJ15 => ?_)
        exact Fo.some hI14 hJ15
      · refine Fo.ite ?_ ?_
        · exact hj12
        · refine Fo.ite ?_ ?_
          · exact Fo.some hI10 hJ
          · exact hj12
    · refine Fo.ite ?_ ?_
      · exact hj11 _ _ hI7
      · refine Fo.gbx ?_
        refine Fo.lbv (fun x16 => ?_)
        refine Fo.lui rfl hI7 (fun I17 hI17 => ?_)
        exact hj11 _ _ hI17
theorem fr_X6_note (l1 : Int32) (l2 : Int32) (l3 : Int32) (l4 : Int32) (I : HI) (J : HJ) : Fo wi_X6_note wj_X6_note I J (F_X6_note l1 l2 l3 l4 I J) := by
  suffices key : ∀ (I0 : HI) (J0 : HJ), Sm wi_X6_note I0 I → Sm wj_X6_note J0 J → Fo wi_X6_note wj_X6_note I0 J0 (F_X6_note l1 l2 l3 l4 I J) from key I J Sm.rf Sm.rf
  intro I0 J0 hI hJ
  unfold F_X6_note
  refine Fo.ite ?_ ?_
  · refine Fo.gbx ?_
    refine Fo.lui rfl hI (fun I6 hI6 => ?_)
    refine Fo.gbx ?_
    refine Fo.lui rfl hI6 (fun I7 hI7 => ?_)
    refine Fo.gbx ?_
    refine Fo.lui rfl hI7 (fun I8 hI8 => ?_)
    refine Fo.gbx ?_
    refine Fo.lui rfl hI8 (fun I9 hI9 => ?_)
    refine Fo.lui rfl hI9 (fun I10 hI10 => ?_)
    exact Fo.some hI10 hJ
  · refine Fo.call (fr_X6_fail (I x_reader f_Reader_at) I J) (by decide) (by decide) hI hJ (fun r11 I12 J13 hI12 hJ13 => ?_)
    refine Fo.gg01 ?_
    exact Fo.some hI12 hJ13
theorem fr_X6_readWidth  (I : HI) (J : HJ) : Fo wi_X6_readWidth wj_X6_readWidth I J (F_X6_readWidth  I J) := by
  suffices key : ∀ (I0 : HI) (J0 : HJ), Sm wi_X6_readWidth I0 I → Sm wj_X6_readWidth J0 J → Fo wi_X6_readWidth wj_X6_readWidth I0 J0 (F_X6_readWidth  I J) from key I J Sm.rf Sm.rf
  intro I0 J0 hI hJ
  unfold F_X6_readWidth
  refine Fo.lui rfl hI (fun I4 hI4 => ?_)
  refine Fo.call (fr_X6_takeNumber (2 : Int32) (10 : Int32) I4 J) (by decide) (by decide) hI4 hJ (fun r5 I6 J7 hI6 hJ7 => ?_)
  refine Fo.ite ?_ ?_
  · exact Fo.some hI6 hJ7
  · refine Fo.lui rfl hI6 (fun I8 hI8 => ?_)
    refine Fo.lui rfl hI8 (fun I9 hI9 => ?_)
    refine Fo.call (fr_X6_note (0 : Int32) (-1 : Int32) (-1 : Int32) r5 I9 J7) (by decide) (by decide) hI9 hJ7 (fun r10 I11 J12 hI11 hJ12 => ?_)
    refine Fo.gg01 ?_
    exact Fo.some hI11 hJ12
theorem fr_X6_takeWire (l1 : Int32) (I : HI) (J : HJ) : Fo wi_X6_takeWire wj_X6_takeWire I J (F_X6_takeWire l1 I J) := by
  suffices key : ∀ (I0 : HI) (J0 : HJ), Sm wi_X6_takeWire I0 I → Sm wj_X6_takeWire J0 J → Fo wi_X6_takeWire wj_X6_takeWire I0 J0 (F_X6_takeWire l1 I J) from key I J Sm.rf Sm.rf
  intro I0 J0 hI hJ
  unfold F_X6_takeWire
  refine Fo.callp (fun r3 => ?_)
  refine Fo.jn (fun j => ∀ (y4 : Int32), Fo wi_X6_takeWire wj_X6_takeWire I0 J0 (j y4)) (fun y4 => ?_) (fun j5 hj5 => ?_)
  · refine Fo.jn (fun j => Fo wi_X6_takeWire wj_X6_takeWire I0 J0 (j)) ?_ (fun j6 hj6 => ?_)
    · refine Fo.call (fr_X6_fail (I x_reader f_Reader_at) I J) (by decide) (by decide) hI hJ (fun r7 I8 J9 hI8 hJ9 => ?_)
      exact Fo.some hI8 hJ9
    · refine Fo.ite ?_ ?_
      · exact hj6
      · refine Fo.ite ?_ ?_
        · exact hj6
        · refine Fo.ite ?_ ?_
          · exact hj6
          · refine Fo.lui rfl hI (fun I10 hI10 => ?_)
            exact Fo.some hI10 hJ
  · refine Fo.ite ?_ ?_
    · exact hj5 _
    · refine Fo.gbx ?_
      exact hj5 _
theorem fr_X6_take (l1 : Int32) (I : HI) (J : HJ) : Fo wi_X6_take wj_X6_take I J (F_X6_take l1 I J) := by
  suffices key : ∀ (I0 : HI) (J0 : HJ), Sm wi_X6_take I0 I → Sm wj_X6_take J0 J → Fo wi_X6_take wj_X6_take I0 J0 (F_X6_take l1 I J) from key I J Sm.rf Sm.rf
  intro I0 J0 hI hJ
  unfold F_X6_take
  refine Fo.callp (fun r2 => ?_)
  refine Fo.ite ?_ ?_
  · refine Fo.call (fr_X6_fail (I x_reader f_Reader_at) I J) (by decide) (by decide) hI hJ (fun r4 I5 J6 hI5 hJ6 => ?_)
    refine Fo.gg01 ?_
    exact Fo.some hI5 hJ6
  · refine Fo.lui rfl hI (fun I3 hI3 => ?_)
    exact Fo.some hI3 hJ
theorem fr_X6_readOhms  (I : HI) (J : HJ) : Fo wi_X6_readOhms wj_X6_readOhms I J (F_X6_readOhms  I J) := by
  suffices key : ∀ (I0 : HI) (J0 : HJ), Sm wi_X6_readOhms I0 I → Sm wj_X6_readOhms J0 J → Fo wi_X6_readOhms wj_X6_readOhms I0 J0 (F_X6_readOhms  I J) from key I J Sm.rf Sm.rf
  intro I0 J0 hI hJ
  unfold F_X6_readOhms
  refine Fo.lui rfl hI (fun I2 hI2 => ?_)
  refine Fo.call (fr_X6_takeWire (-1 : Int32) I2 J) (by decide) (by decide) hI2 hJ (fun r3 I4 J5 hI4 hJ5 => ?_)
  refine Fo.ite ?_ ?_
  · exact Fo.some hI4 hJ5
  · refine Fo.call (fr_X6_take (44 : Int32) I4 J5) (by decide) (by decide) hI4 hJ5 (fun r6 I7 J8 hI7 hJ8 => ?_)
    refine Fo.ite ?_ ?_
    · exact Fo.some hI7 hJ8
    · refine Fo.call (fr_X6_takeNumber (0 : Int32) (4 : Int32) I7 J8) (by decide) (by decide) hI7 hJ8 (fun r9 I10 J11 hI10 hJ11 => ?_)
      refine Fo.ite ?_ ?_
      · exact Fo.some hI10 hJ11
      · refine Fo.call (fr_X6_note (1 : Int32) r3 (-1 : Int32) r9 I10 J11) (by decide) (by decide) hI10 hJ11 (fun r12 I13 J14 hI13 hJ14 => ?_)
        refine Fo.ite ?_ ?_
        · exact Fo.some hI13 hJ14
        · exact Fo.some hI13 hJ14
theorem fr_X6_readLamp  (I : HI) (J : HJ) : Fo wi_X6_readLamp wj_X6_readLamp I J (F_X6_readLamp  I J) := by
  suffices key : ∀ (I0 : HI) (J0 : HJ), Sm wi_X6_readLamp I0 I → Sm wj_X6_readLamp J0 J → Fo wi_X6_readLamp wj_X6_readLamp I0 J0 (F_X6_readLamp  I J) from key I J Sm.rf Sm.rf
  intro I0 J0 hI hJ
  unfold F_X6_readLamp
  refine Fo.ite ?_ ?_
  · refine Fo.call (fr_X6_takeWire (-1 : Int32) I J) (by decide) (by decide) hI hJ (fun r2 I3 J4 hI3 hJ4 => ?_)
    refine Fo.ite ?_ ?_
    · exact Fo.some hI3 hJ4
    · refine Fo.call (fr_X6_take (62 : Int32) I3 J4) (by decide) (by decide) hI3 hJ4 (fun r5 I6 J7 hI6 hJ7 => ?_)
      refine Fo.ite ?_ ?_
      · exact Fo.some hI6 hJ7
      · refine Fo.call (fr_X6_takeWire r2 I6 J7) (by decide) (by decide) hI6 hJ7 (fun r8 I9 J10 hI9 hJ10 => ?_)
        refine Fo.ite ?_ ?_
        · exact Fo.some hI9 hJ10
        · refine Fo.call (fr_X6_take (42 : Int32) I9 J10) (by decide) (by decide) hI9 hJ10 (fun r11 I12 J13 hI12 hJ13 => ?_)
          refine Fo.ite ?_ ?_
          · exact Fo.some hI12 hJ13
          · refine Fo.call (fr_X6_takeNumber (1 : Int32) (9 : Int32) I12 J13) (by decide) (by decide) hI12 hJ13 (fun r14 I15 J16 hI15 hJ16 => ?_)
            refine Fo.ite ?_ ?_
            · exact Fo.some hI15 hJ16
            · refine Fo.lui rfl hI15 (fun I17 hI17 => ?_)
              refine Fo.call (fr_X6_note (2 : Int32) r2 r8 r14 I17 J16) (by decide) (by decide) hI17 hJ16 (fun r18 I19 J20 hI19 hJ20 => ?_)
              refine Fo.gg01 ?_
              exact Fo.some hI19 hJ20
  · refine Fo.call (fr_X6_fail (I x_reader f_Reader_at) I J) (by decide) (by decide) hI hJ (fun r21 I22 J23 hI22 hJ23 => ?_)
    refine Fo.gg01 ?_
    exact Fo.some hI22 hJ23
theorem fr_X6_readLine  (I : HI) (J : HJ) : Fo wi_X6_readLine wj_X6_readLine I J (F_X6_readLine  I J) := by
  suffices key : ∀ (I0 : HI) (J0 : HJ), Sm wi_X6_readLine I0 I → Sm wj_X6_readLine J0 J → Fo wi_X6_readLine wj_X6_readLine I0 J0 (F_X6_readLine  I J) from key I J Sm.rf Sm.rf
  intro I0 J0 hI hJ
  unfold F_X6_readLine
  refine Fo.callp (fun r1 => ?_)
  refine Fo.ite ?_ ?_
  · refine Fo.callp (fun r2 => ?_)
    refine Fo.ite ?_ ?_
    · refine Fo.call (fr_X6_readLamp I J) (by decide) (by decide) hI hJ (fun r3 I4 J5 hI4 hJ5 => ?_)
      refine Fo.gg01 ?_
      exact Fo.some hI4 hJ5
    · refine Fo.call (fr_X6_readOhms I J) (by decide) (by decide) hI hJ (fun r6 I7 J8 hI7 hJ8 => ?_)
      refine Fo.gg01 ?_
      exact Fo.some hI7 hJ8
  · refine Fo.call (fr_X6_readWidth I J) (by decide) (by decide) hI hJ (fun r9 I10 J11 hI10 hJ11 => ?_)
    refine Fo.gg01 ?_
    exact Fo.some hI10 hJ11
theorem fr_X6_goesOn  (I : HI) (J : HJ) : Fo wi_X6_goesOn wj_X6_goesOn I J (F_X6_goesOn  I J) := by
  suffices key : ∀ (I0 : HI) (J0 : HJ), Sm wi_X6_goesOn I0 I → Sm wj_X6_goesOn J0 J → Fo wi_X6_goesOn wj_X6_goesOn I0 J0 (F_X6_goesOn  I J) from key I J Sm.rf Sm.rf
  intro I0 J0 hI hJ
  unfold F_X6_goesOn
  refine Fo.ite ?_ ?_
  · exact Fo.some hI hJ
  · refine Fo.call (fr_X6_take (59 : Int32) I J) (by decide) (by decide) hI hJ (fun r1 I2 J3 hI2 hJ3 => ?_)
    refine Fo.ite ?_ ?_
    · exact Fo.some hI2 hJ3
    · exact Fo.some hI2 hJ3
theorem fr_X6_read_L60 (I0 : HI) (J0 : HJ) (kx97 : HI → HJ → Option (Int32 × HI × HJ)) (hkx97 : ∀ (I1 : HI) (J1 : HJ), Sm wi_X6_read I0 I1 → Sm wj_X6_read J0 J1 → Fo wi_X6_read wj_X6_read I0 J0 (kx97 I1 J1)) : ∀ (K : Nat) (l3 : Int32) (l4 : Int32) (I : HI) (J : HJ) (hI : Sm wi_X6_read I0 I) (hJ : Sm wj_X6_read J0 J), Fo wi_X6_read wj_X6_read I0 J0 (F_X6_read_L60 kx97 K l3 l4 I J) := by
  intro K
  induction K with
  | zero => intro l3 l4 I J hI hJ; exact Fo.none
  | succ K ih =>
    intro l3 l4 I J hI hJ
    rw [F_X6_read_L60]
    refine Fo.ite ?_ ?_
    · exact hkx97 _ _ hI hJ
    · refine Fo.ite ?_ ?_
      · exact hkx97 _ _ hI hJ
      · refine Fo.call (fr_X6_readLine I J) (by decide) (by decide) hI hJ (fun r16 I17 J18 hI17 hJ18 => ?_)
        refine Fo.jn (fun j => ∀ (y19 : Int32) (I20 : HI) (J21 : HJ), Sm wi_X6_read I0 I20 → Sm wj_X6_read J0 J21 → Fo wi_X6_read wj_X6_read I0 J0 (j y19 I20 J21)) (fun y19 I20 J21 hI20 hJ21 => ?_) (fun j22 hj22 => ?_)
        · exact ih _ _ _ _ hI20 hJ21
        · refine Fo.jn (fun j => ∀ (I23 : HI) (J24 : HJ), Sm wi_X6_read I0 I23 → Sm wj_X6_read J0 J24 → Fo wi_X6_read wj_X6_read I0 J0 (j I23 J24)) (fun I23 J24 hI23 hJ24 => ?_) (fun j25 hj25 => ?_)
          · exact hj22 _ _ _ hI23 hJ24
          · refine Fo.ite ?_ ?_
            · exact hj25 _ _ hI17 hJ18
            · refine Fo.call (fr_X6_goesOn I17 J18) (by decide) (by decide) hI17 hJ18 (fun r26 I27 J28 hI27 hJ28 => ?_)
              refine Fo.ite ?_ ?_
              · exact hj25 _ _ hI27 hJ28
              · exact hj22 _ _ _ hI27 hJ28
theorem fr_X6_read (l1 : Int32) (l2 : Int32) (I : HI) (J : HJ) : Fo wi_X6_read wj_X6_read I J (F_X6_read l1 l2 I J) := by
  suffices key : ∀ (I0 : HI) (J0 : HJ), Sm wi_X6_read I0 I → Sm wj_X6_read J0 J → Fo wi_X6_read wj_X6_read I0 J0 (F_X6_read l1 l2 I J) from key I J Sm.rf Sm.rf
  intro I0 J0 hI hJ
  unfold F_X6_read
  refine Fo.lui rfl hI (fun I8 hI8 => ?_)
  refine Fo.lui rfl hI8 (fun I9 hI9 => ?_)
  refine Fo.lui rfl hI9 (fun I10 hI10 => ?_)
  refine Fo.lui rfl hI10 (fun I11 hI11 => ?_)
  refine Fo.lui rfl hI11 (fun I12 hI12 => ?_)
  refine Fo.lui rfl hI12 (fun I13 hI13 => ?_)
  refine Fo.jn (fun j => ∀ (y14 : Int32), Fo wi_X6_read wj_X6_read I0 J0 (j y14)) (fun y14 => ?_) (fun j15 hj15 => ?_)
  · refine fr_X6_read_L60 _ _ _ (fun I29 J30 hI29 hJ30 => ?_) bgf _ _ _ _ hI13 hJ
    refine Fo.jn (fun j => ∀ (I31 : HI), Sm wi_X6_read I0 I31 → Fo wi_X6_read wj_X6_read I0 J0 (j I31)) (fun I31 hI31 => ?_) (fun j32 hj32 => ?_)
    · exact Fo.some hI31 hJ30
    · refine Fo.ite ?_ ?_
      · refine Fo.ite ?_ ?_
        · exact hj32 _ hI29
        · refine Fo.lui rfl hI29 (fun I33 hI33 => ?_)
          exact hj32 _ hI33
      · exact hj32 _ hI29
  · refine Fo.ite ?_ ?_
    · exact hj15 _
    · exact hj15 _
theorem fr_J7_fill_d0a16_6_L6 (I0 : HI) (J0 : HJ) (l1 : Int64) (l4 : Int32) (I : HI) (hI : Sm wi_J7_fill_d0a16_6 I0 I) : ∀ (K : Nat) (l3 : Int32) (J : HJ) (hJ : Sm wj_J7_fill_d0a16_6 J0 J), Fo wi_J7_fill_d0a16_6 wj_J7_fill_d0a16_6 I0 J0 (F_J7_fill_d0a16_6_L6 l1 l4 I K l3 J) := by
  intro K
  induction K with
  | zero => intro l3 J hJ; exact Fo.none
  | succ K ih =>
    intro l3 J hJ
    rw [F_J7_fill_d0a16_6_L6]
    refine Fo.ite ?_ ?_
    · exact Fo.some hI hJ
    · refine Fo.gbx ?_
      refine Fo.luj rfl hJ (fun J2 hJ2 => ?_)
      exact ih _ _ hJ2
theorem fr_J7_fill_d0a16_6 (l1 : Int64) (I : HI) (J : HJ) : Fo wi_J7_fill_d0a16_6 wj_J7_fill_d0a16_6 I J (F_J7_fill_d0a16_6 l1 I J) := by
  suffices key : ∀ (I0 : HI) (J0 : HJ), Sm wi_J7_fill_d0a16_6 I0 I → Sm wj_J7_fill_d0a16_6 J0 J → Fo wi_J7_fill_d0a16_6 wj_J7_fill_d0a16_6 I0 J0 (F_J7_fill_d0a16_6 l1 I J) from key I J Sm.rf Sm.rf
  intro I0 J0 hI hJ
  unfold F_J7_fill_d0a16_6
  refine fr_J7_fill_d0a16_6_L6 _ _ _ _ _ hI bgf _ _ hJ
theorem fr_J7_fill_d0a16_7_L6 (I0 : HI) (J0 : HJ) (l1 : Int64) (l4 : Int32) (I : HI) (hI : Sm wi_J7_fill_d0a16_7 I0 I) : ∀ (K : Nat) (l3 : Int32) (J : HJ) (hJ : Sm wj_J7_fill_d0a16_7 J0 J), Fo wi_J7_fill_d0a16_7 wj_J7_fill_d0a16_7 I0 J0 (F_J7_fill_d0a16_7_L6 l1 l4 I K l3 J) := by
  intro K
  induction K with
  | zero => intro l3 J hJ; exact Fo.none
  | succ K ih =>
    intro l3 J hJ
    rw [F_J7_fill_d0a16_7_L6]
    refine Fo.ite ?_ ?_
    · exact Fo.some hI hJ
    · refine Fo.gbx ?_
      refine Fo.luj rfl hJ (fun J2 hJ2 => ?_)
      exact ih _ _ hJ2
theorem fr_J7_fill_d0a16_7 (l1 : Int64) (I : HI) (J : HJ) : Fo wi_J7_fill_d0a16_7 wj_J7_fill_d0a16_7 I J (F_J7_fill_d0a16_7 l1 I J) := by
  suffices key : ∀ (I0 : HI) (J0 : HJ), Sm wi_J7_fill_d0a16_7 I0 I → Sm wj_J7_fill_d0a16_7 J0 J → Fo wi_J7_fill_d0a16_7 wj_J7_fill_d0a16_7 I0 J0 (F_J7_fill_d0a16_7 l1 I J) from key I J Sm.rf Sm.rf
  intro I0 J0 hI hJ
  unfold F_J7_fill_d0a16_7
  refine fr_J7_fill_d0a16_7_L6 _ _ _ _ _ hI bgf _ _ hJ
theorem fr_X0_rewire_L18 (I0 : HI) (J0 : HJ) (I : HI) (hI : Sm wi_X0_rewire I0 I) : ∀ (K : Nat) (l1 : Int32) (J : HJ) (hJ : Sm wj_X0_rewire J0 J), Fo wi_X0_rewire wj_X0_rewire I0 J0 (F_X0_rewire_L18 I K l1 J) := by
  intro K
  induction K with
  | zero => intro l1 J hJ; exact Fo.none
  | succ K ih =>
    intro l1 J hJ
    rw [F_X0_rewire_L18]
    refine Fo.ite ?_ ?_
    · exact Fo.some hI hJ
    · refine Fo.gbx ?_
      refine Fo.gbx ?_
      refine Fo.gbx ?_
      refine Fo.luj rfl hJ (fun J7 hJ7 => ?_)
      refine Fo.gbx ?_
      refine Fo.gbx ?_
      refine Fo.gbx ?_
      refine Fo.luj rfl hJ7 (fun J8 hJ8 => ?_)
      exact ih _ _ hJ8
theorem fr_X0_rewire  (I : HI) (J : HJ) : Fo wi_X0_rewire wj_X0_rewire I J (F_X0_rewire  I J) := by
  suffices key : ∀ (I0 : HI) (J0 : HJ), Sm wi_X0_rewire I0 I → Sm wj_X0_rewire J0 J → Fo wi_X0_rewire wj_X0_rewire I0 J0 (F_X0_rewire  I J) from key I J Sm.rf Sm.rf
  intro I0 J0 hI hJ
  unfold F_X0_rewire
  refine Fo.call (fr_J7_fill_d0a16_6 (0 : Int64) I J) (by decide) (by decide) hI hJ (fun _ I3 J4 hI3 hJ4 => ?_)
  refine Fo.call (fr_J7_fill_d0a16_7 (0 : Int64) I3 J4) (by decide) (by decide) hI3 hJ4 (fun _ I5 J6 hI5 hJ6 => ?_)
  refine fr_X0_rewire_L18 _ _ _ hI5 bgf _ _ hJ6
theorem fr_X0_startAnew (l1 : Int32) (I : HI) (J : HJ) : Fo wi_X0_startAnew wj_X0_startAnew I J (F_X0_startAnew l1 I J) := by
  suffices key : ∀ (I0 : HI) (J0 : HJ), Sm wi_X0_startAnew I0 I → Sm wj_X0_startAnew J0 J → Fo wi_X0_startAnew wj_X0_startAnew I0 J0 (F_X0_startAnew l1 I J) from key I J Sm.rf Sm.rf
  intro I0 J0 hI hJ
  unfold F_X0_startAnew
  refine Fo.lui rfl hI (fun I3 hI3 => ?_)
  refine Fo.lui rfl hI3 (fun I4 hI4 => ?_)
  refine Fo.call (fr_X0_rewire I4 J) (by decide) (by decide) hI4 hJ (fun _ I5 J6 hI5 hJ6 => ?_)
  exact Fo.some hI5 hJ6
theorem fr_J7_fill_d0a16_26_L6 (I0 : HI) (J0 : HJ) (l1 : Int64) (l4 : Int32) (I : HI) (hI : Sm wi_J7_fill_d0a16_26 I0 I) : ∀ (K : Nat) (l3 : Int32) (J : HJ) (hJ : Sm wj_J7_fill_d0a16_26 J0 J), Fo wi_J7_fill_d0a16_26 wj_J7_fill_d0a16_26 I0 J0 (F_J7_fill_d0a16_26_L6 l1 l4 I K l3 J) := by
  intro K
  induction K with
  | zero => intro l3 J hJ; exact Fo.none
  | succ K ih =>
    intro l3 J hJ
    rw [F_J7_fill_d0a16_26_L6]
    refine Fo.ite ?_ ?_
    · exact Fo.some hI hJ
    · refine Fo.gbx ?_
      refine Fo.luj rfl hJ (fun J2 hJ2 => ?_)
      exact ih _ _ hJ2
theorem fr_J7_fill_d0a16_26 (l1 : Int64) (I : HI) (J : HJ) : Fo wi_J7_fill_d0a16_26 wj_J7_fill_d0a16_26 I J (F_J7_fill_d0a16_26 l1 I J) := by
  suffices key : ∀ (I0 : HI) (J0 : HJ), Sm wi_J7_fill_d0a16_26 I0 I → Sm wj_J7_fill_d0a16_26 J0 J → Fo wi_J7_fill_d0a16_26 wj_J7_fill_d0a16_26 I0 J0 (F_J7_fill_d0a16_26 l1 I J) from key I J Sm.rf Sm.rf
  intro I0 J0 hI hJ
  unfold F_J7_fill_d0a16_26
  refine fr_J7_fill_d0a16_26_L6 _ _ _ _ _ hI bgf _ _ hJ
theorem fr_X3_clear_25  (I : HI) (J : HJ) : Fo wi_X3_clear_25 wj_X3_clear_25 I J (F_X3_clear_25  I J) := by
  suffices key : ∀ (I0 : HI) (J0 : HJ), Sm wi_X3_clear_25 I0 I → Sm wj_X3_clear_25 J0 J → Fo wi_X3_clear_25 wj_X3_clear_25 I0 J0 (F_X3_clear_25  I J) from key I J Sm.rf Sm.rf
  intro I0 J0 hI hJ
  unfold F_X3_clear_25
  refine Fo.lui rfl hI (fun I4 hI4 => ?_)
  refine Fo.lui rfl hI4 (fun I5 hI5 => ?_)
  refine Fo.lui rfl hI5 (fun I6 hI6 => ?_)
  refine Fo.call (fr_J7_fill_d0a16_26 (0 : Int64) I6 J) (by decide) (by decide) hI6 hJ (fun _ I7 J8 hI7 hJ8 => ?_)
  exact Fo.some hI7 hJ8
theorem fr_X0_resist (l1 : Int32) (l2 : Int32) (I : HI) (J : HJ) : Fo wi_X0_resist wj_X0_resist I J (F_X0_resist l1 l2 I J) := by
  suffices key : ∀ (I0 : HI) (J0 : HJ), Sm wi_X0_resist I0 I → Sm wj_X0_resist J0 J → Fo wi_X0_resist wj_X0_resist I0 J0 (F_X0_resist l1 l2 I J) from key I J Sm.rf Sm.rf
  intro I0 J0 hI hJ
  unfold F_X0_resist
  refine Fo.callp (fun r2 => ?_)
  refine Fo.ite ?_ ?_
  · exact Fo.some hI hJ
  · refine Fo.gbx ?_
    refine Fo.lui rfl hI (fun I3 hI3 => ?_)
    exact Fo.some hI3 hJ
theorem fr_X0_add (l1 : Int32) (l2 : Int32) (l3 : Int32) (I : HI) (J : HJ) : Fo wi_X0_add wj_X0_add I J (F_X0_add l1 l2 l3 I J) := by
  suffices key : ∀ (I0 : HI) (J0 : HJ), Sm wi_X0_add I0 I → Sm wj_X0_add J0 J → Fo wi_X0_add wj_X0_add I0 J0 (F_X0_add l1 l2 l3 I J) from key I J Sm.rf Sm.rf
  intro I0 J0 hI hJ
  unfold F_X0_add
  refine Fo.ite ?_ ?_
  · exact Fo.some hI hJ
  · refine Fo.callp (fun r7 => ?_)
    refine Fo.ite ?_ ?_
    · exact Fo.some hI hJ
    · refine Fo.callp (fun r8 => ?_)
      refine Fo.ite ?_ ?_
      · exact Fo.some hI hJ
      · refine Fo.gbx ?_
        refine Fo.lui rfl hI (fun I9 hI9 => ?_)
        refine Fo.gbx ?_
        refine Fo.lui rfl hI9 (fun I10 hI10 => ?_)
        refine Fo.gbx ?_
        refine Fo.lui rfl hI10 (fun I11 hI11 => ?_)
        refine Fo.gbx ?_
        refine Fo.gbx ?_
        refine Fo.luj rfl hJ (fun J12 hJ12 => ?_)
        refine Fo.gbx ?_
        refine Fo.gbx ?_
        refine Fo.luj rfl hJ12 (fun J13 hJ13 => ?_)
        refine Fo.lui rfl hI11 (fun I14 hI14 => ?_)
        exact Fo.some hI14 hJ13
theorem fr_X11_takeLine_L50 (I0 : HI) (J0 : HJ) (J : HJ) (hJ : Sm wj_X11_takeLine J0 J) : ∀ (K : Nat) (l4 : Int32) (I : HI) (hI : Sm wi_X11_takeLine I0 I), Fo wi_X11_takeLine wj_X11_takeLine I0 J0 (F_X11_takeLine_L50 J K l4 I) := by
  intro K
  induction K with
  | zero => intro l4 I hI; exact Fo.none
  | succ K ih =>
    intro l4 I hI
    rw [F_X11_takeLine_L50]
    refine Fo.ite ?_ ?_
    · exact Fo.some hI hJ
    · refine Fo.gbx ?_
      refine Fo.ite ?_ ?_
      · refine Fo.lui rfl hI (fun I17 hI17 => ?_)
        exact ih _ _ hI17
      · refine Fo.lui rfl hI (fun I18 hI18 => ?_)
        exact ih _ _ hI18
theorem fr_X11_takeLine (l1 : Int32) (I : HI) (J : HJ) : Fo wi_X11_takeLine wj_X11_takeLine I J (F_X11_takeLine l1 I J) := by
  suffices key : ∀ (I0 : HI) (J0 : HJ), Sm wi_X11_takeLine I0 I → Sm wj_X11_takeLine J0 J → Fo wi_X11_takeLine wj_X11_takeLine I0 J0 (F_X11_takeLine l1 I J) from key I J Sm.rf Sm.rf
  intro I0 J0 hI hJ
  unfold F_X11_takeLine
  refine Fo.gbx ?_
  refine Fo.lbv (fun x6 => ?_)
  refine Fo.gbx ?_
  refine Fo.lbv (fun x7 => ?_)
  refine Fo.ite ?_ ?_
  · refine Fo.call (fr_X0_startAnew x7 I J) (by decide) (by decide) hI hJ (fun _ I12 J13 hI12 hJ13 => ?_)
    refine Fo.call (fr_X3_clear_25 I12 J13) (by decide) (by decide) hI12 hJ13 (fun _ I14 J15 hI14 hJ15 => ?_)
    refine Fo.lui rfl hI14 (fun I16 hI16 => ?_)
    refine fr_X11_takeLine_L50 _ _ _ hJ15 bgf _ _ hI16
  · refine Fo.ite ?_ ?_
    · refine Fo.gbx ?_
      refine Fo.call (fr_X0_resist (I x_reader_wires (Int32.toNatClampNeg l1)) x7 I J) (by decide) (by decide) hI hJ (fun _ I10 J11 hI10 hJ11 => ?_)
      exact Fo.some hI10 hJ11
    · refine Fo.gbx ?_
      refine Fo.gbx ?_
      refine Fo.call (fr_X0_add (I x_reader_wires (Int32.toNatClampNeg l1)) (I x_reader_goals (Int32.toNatClampNeg l1)) x7 I J) (by decide) (by decide) hI hJ (fun _ I8 J9 hI8 hJ9 => ?_)
      exact Fo.some hI8 hJ9
theorem fr_X11_board_L41 (I0 : HI) (J0 : HJ) (kx63 : HI → HJ → Option (Int32 × HI × HJ)) (hkx63 : ∀ (I1 : HI) (J1 : HJ), Sm wi_X11_board I0 I1 → Sm wj_X11_board J0 J1 → Fo wi_X11_board wj_X11_board I0 J0 (kx63 I1 J1)) : ∀ (K : Nat) (l2 : Int32) (I : HI) (J : HJ) (hI : Sm wi_X11_board I0 I) (hJ : Sm wj_X11_board J0 J), Fo wi_X11_board wj_X11_board I0 J0 (F_X11_board_L41 kx63 K l2 I J) := by
  intro K
  induction K with
  | zero => intro l2 I J hI hJ; exact Fo.none
  | succ K ih =>
    intro l2 I J hI hJ
    rw [F_X11_board_L41]
    refine Fo.ite ?_ ?_
    · exact hkx63 _ _ hI hJ
    · refine Fo.call (fr_X11_takeLine l2 I J) (by decide) (by decide) hI hJ (fun _ I7 J8 hI7 hJ8 => ?_)
      exact ih _ _ _ hI7 hJ8
theorem fr_X11_board  (I : HI) (J : HJ) : Fo wi_X11_board wj_X11_board I J (F_X11_board  I J) := by
  suffices key : ∀ (I0 : HI) (J0 : HJ), Sm wi_X11_board I0 I → Sm wj_X11_board J0 J → Fo wi_X11_board wj_X11_board I0 J0 (F_X11_board  I J) from key I J Sm.rf Sm.rf
  intro I0 J0 hI hJ
  unfold F_X11_board
  refine Fo.call (fr_X6_read (I x_board f_Board_wide) (I x_board f_Board_lamps) I J) (by decide) (by decide) hI hJ (fun r3 I4 J5 hI4 hJ5 => ?_)
  refine Fo.lui rfl hI4 (fun I6 hI6 => ?_)
  refine Fo.ite ?_ ?_
  · refine fr_X11_board_L41 _ _ _ (fun I9 J10 hI9 hJ10 => ?_) bgf _ _ _ hI6 hJ5
    refine Fo.lui rfl hI9 (fun I11 hI11 => ?_)
    exact Fo.some hI11 hJ10
  · exact Fo.some hI6 hJ5
theorem fr_X11_set (l1 : Int32) (l2 : Int32) (I : HI) (J : HJ) : Fo wi_X11_set wj_X11_set I J (F_X11_set l1 l2 I J) := by
  suffices key : ∀ (I0 : HI) (J0 : HJ), Sm wi_X11_set I0 I → Sm wj_X11_set J0 J → Fo wi_X11_set wj_X11_set I0 J0 (F_X11_set l1 l2 I J) from key I J Sm.rf Sm.rf
  intro I0 J0 hI hJ
  unfold F_X11_set
  refine Fo.jn (fun j => ∀ (y8 : Int32) (I9 : HI), Sm wi_X11_set I0 I9 → Fo wi_X11_set wj_X11_set I0 J0 (j y8 I9)) (fun y8 I9 hI9 => ?_) (fun j10 hj10 => ?_)
  · refine Fo.ite ?_ ?_
    · exact Fo.some hI9 hJ
    · refine Fo.lui rfl hI9 (fun I11 hI11 => ?_)
      exact Fo.some hI11 hJ
  · refine Fo.jn (fun j => Fo wi_X11_set wj_X11_set I0 J0 (j)) ?_ (fun j12 hj12 => ?_)
    · refine Fo.jn (fun j => Fo wi_X11_set wj_X11_set I0 J0 (j)) ?_ (fun j13 hj13 => ?_)
      · refine Fo.ite ?_ ?_
        · refine Fo.ite ?_ ?_
          · exact hj10 _ _ hI
          · refine Fo.ite ?_ ?_
            · exact hj10 _ _ hI
            · refine Fo.lbv (fun x14 => ?_)
              refine Fo.lui rfl hI (fun I15 hI15 => ?_)
              exact hj10 _ _ hI15
        · exact hj10 _ _ hI
      · refine Fo.ite ?_ ?_
        · refine Fo.ite ?_ ?_
          · exact hj13
          · refine Fo.ite ?_ ?_
            · exact hj13
            · refine Fo.lbv (fun x16 => ?_)
              refine Fo.lui rfl hI (fun I17 hI17 => ?_)
              exact hj10 _ _ hI17
        · exact hj13
    · refine Fo.ite ?_ ?_
      · refine Fo.ite ?_ ?_
        · exact hj12
        · refine Fo.ite ?_ ?_
          · exact hj12
          · refine Fo.lbv (fun x18 => ?_)
            refine Fo.lui rfl hI (fun I19 hI19 => ?_)
            exact hj10 _ _ hI19
      · exact hj12
theorem fr_X11_sheet_L47 (I0 : HI) (J0 : HJ) (l1 : Int32) (l3 : Int32) (l4 : Int32) (l5 : Int32) (J : HJ) (kx125 : Int32 → HI → Option (Int32 × HI × HJ)) (hJ : Sm wj_X11_sheet J0 J) (hkx125 : ∀ (y6 : Int32) (I1 : HI), Sm wi_X11_sheet I0 I1 → Fo wi_X11_sheet wj_X11_sheet I0 J0 (kx125 y6 I1)) : ∀ (K : Nat) (l6 : Int32) (l7 : Int32) (I : HI) (hI : Sm wi_X11_sheet I0 I), Fo wi_X11_sheet wj_X11_sheet I0 J0 (F_X11_sheet_L47 l1 l3 l4 l5 J kx125 K l6 l7 I) := by
  intro K
  induction K with
  | zero => intro l6 l7 I hI; exact Fo.none
  | succ K ih =>
    intro l6 l7 I hI
    rw [F_X11_sheet_L47]
    refine Fo.ite ?_ ?_
    · exact hkx125 _ _ hI
    · refine Fo.jn (fun j => ∀ (y7 : Int32), Fo wi_X11_sheet wj_X11_sheet I0 J0 (j y7)) (fun y7 => ?_) (fun j8 hj8 => ?_)
      · refine Fo.gbx ?_
        refine Fo.lui rfl hI (fun I9 hI9 => ?_)
        refine Fo.gbx ?_
        refine Fo.lbv (fun x10 => ?_)
        exact ih _ _ _ hI9
      · refine Fo.ite ?_ ?_
        · exact hj8 _
        · refine Fo.callp (fun r11 => ?_)
          exact hj8 _
theorem fr_X11_sheet (l1 : Int32) (l2 : Int32) (l3 : Int32) (l4 : Int32) (I : HI) (J : HJ) : Fo wi_X11_sheet wj_X11_sheet I J (F_X11_sheet l1 l2 l3 l4 I J) := by
  suffices key : ∀ (I0 : HI) (J0 : HJ), Sm wi_X11_sheet I0 I → Sm wj_X11_sheet J0 J → Fo wi_X11_sheet wj_X11_sheet I0 J0 (F_X11_sheet l1 l2 l3 l4 I J) from key I J Sm.rf Sm.rf
  intro I0 J0 hI hJ
  unfold F_X11_sheet
  refine Fo.ite ?_ ?_
  · exact Fo.some hI hJ
  · refine Fo.ite ?_ ?_
    · exact Fo.some hI hJ
    · refine Fo.ite ?_ ?_
      · refine Fo.jn (fun j => Fo wi_X11_sheet wj_X11_sheet I0 J0 (j)) ?_ (fun j4 hj4 => ?_)
        · refine Fo.jn (fun j => ∀ (y5 : Int32), Fo wi_X11_sheet wj_X11_sheet I0 J0 (j y5)) (fun y5 => ?_) (fun j6 hj6 => ?_)
          · refine fr_X11_sheet_L47 _ _ _ _ _ _ _ _ hJ (fun y12 I13 hI13 => ?_) bgf _ _ _ hI
            refine Fo.lui rfl hI13 (fun I14 hI14 => ?_)
            refine Fo.ite ?_ ?_
            · exact Fo.some hI14 hJ
            · exact Fo.some hI14 hJ
          · refine Fo.ite ?_ ?_
            · exact hj6 _
            · exact hj6 _
        · refine Fo.ite ?_ ?_
          · exact hj4
          · refine Fo.ite ?_ ?_
            · exact hj4
            · exact Fo.some hI hJ
      · exact Fo.some hI hJ
theorem fr_X0_trade (l1 : Int32) (l2 : Int32) (I : HI) (J : HJ) : Fo wi_X0_trade wj_X0_trade I J (F_X0_trade l1 l2 I J) := by
  suffices key : ∀ (I0 : HI) (J0 : HJ), Sm wi_X0_trade I0 I → Sm wj_X0_trade J0 J → Fo wi_X0_trade wj_X0_trade I0 J0 (F_X0_trade l1 l2 I J) from key I J Sm.rf Sm.rf
  intro I0 J0 hI hJ
  unfold F_X0_trade
  refine Fo.gbx ?_
  refine Fo.lbv (fun x7 => ?_)
  refine Fo.gbx ?_
  refine Fo.gbx ?_
  refine Fo.lui rfl hI (fun I8 hI8 => ?_)
  refine Fo.gbx ?_
  refine Fo.lui rfl hI8 (fun I9 hI9 => ?_)
  refine Fo.gbx ?_
  refine Fo.lbv (fun x10 => ?_)
  refine Fo.gbx ?_
  refine Fo.gbx ?_
  refine Fo.lui rfl hI9 (fun I11 hI11 => ?_)
  refine Fo.gbx ?_
  refine Fo.lui rfl hI11 (fun I12 hI12 => ?_)
  refine Fo.call (fr_X0_rewire I12 J) (by decide) (by decide) hI12 hJ (fun _ I13 J14 hI13 hJ14 => ?_)
  exact Fo.some hI13 hJ14
theorem fr_X11_swap (l1 : Int32) (l2 : Int32) (I : HI) (J : HJ) : Fo wi_X11_swap wj_X11_swap I J (F_X11_swap l1 l2 I J) := by
  suffices key : ∀ (I0 : HI) (J0 : HJ), Sm wi_X11_swap I0 I → Sm wj_X11_swap J0 J → Fo wi_X11_swap wj_X11_swap I0 J0 (F_X11_swap l1 l2 I J) from key I J Sm.rf Sm.rf
  intro I0 J0 hI hJ
  unfold F_X11_swap
  refine Fo.callp (fun r2 => ?_)
  refine Fo.ite ?_ ?_
  · exact Fo.some hI hJ
  · refine Fo.call (fr_X0_trade l1 l2 I J) (by decide) (by decide) hI hJ (fun _ I3 J4 hI3 hJ4 => ?_)
    refine Fo.lui rfl hI3 (fun I5 hI5 => ?_)
    exact Fo.some hI5 hJ4
theorem fr_X1_lay (l1 : Int32) (l2 : Int32) (I : HI) (J : HJ) : Fo wi_X1_lay wj_X1_lay I J (F_X1_lay l1 l2 I J) := by
  suffices key : ∀ (I0 : HI) (J0 : HJ), Sm wi_X1_lay I0 I → Sm wj_X1_lay J0 J → Fo wi_X1_lay wj_X1_lay I0 J0 (F_X1_lay l1 l2 I J) from key I J Sm.rf Sm.rf
  intro I0 J0 hI hJ
  unfold F_X1_lay
  refine Fo.lui rfl hI (fun I8 hI8 => ?_)
  refine Fo.lui rfl hI8 (fun I9 hI9 => ?_)
  refine Fo.lui rfl hI9 (fun I10 hI10 => ?_)
  refine Fo.lui rfl hI10 (fun I11 hI11 => ?_)
  refine Fo.ite Fo.none ?_
  refine Fo.luf (fun _ => rfl) hI11 (fun I12 hI12 => ?_)
  refine Fo.ite Fo.none ?_
  refine Fo.lufj (fun _ => rfl) hJ (fun J13 hJ13 => ?_)
  refine Fo.ite Fo.none ?_
  refine Fo.lufj (fun _ => rfl) hJ13 (fun J14 hJ14 => ?_)
  exact Fo.some hI12 hJ14
theorem fr_J7_fill_d0a16_22_L6 (I0 : HI) (J0 : HJ) (l1 : Int64) (l4 : Int32) (I : HI) (hI : Sm wi_J7_fill_d0a16_22 I0 I) : ∀ (K : Nat) (l3 : Int32) (J : HJ) (hJ : Sm wj_J7_fill_d0a16_22 J0 J), Fo wi_J7_fill_d0a16_22 wj_J7_fill_d0a16_22 I0 J0 (F_J7_fill_d0a16_22_L6 l1 l4 I K l3 J) := by
  intro K
  induction K with
  | zero => intro l3 J hJ; exact Fo.none
  | succ K ih =>
    intro l3 J hJ
    rw [F_J7_fill_d0a16_22_L6]
    refine Fo.ite ?_ ?_
    · exact Fo.some hI hJ
    · refine Fo.gbx ?_
      refine Fo.luj rfl hJ (fun J2 hJ2 => ?_)
      exact ih _ _ hJ2
theorem fr_J7_fill_d0a16_22 (l1 : Int64) (I : HI) (J : HJ) : Fo wi_J7_fill_d0a16_22 wj_J7_fill_d0a16_22 I J (F_J7_fill_d0a16_22 l1 I J) := by
  suffices key : ∀ (I0 : HI) (J0 : HJ), Sm wi_J7_fill_d0a16_22 I0 I → Sm wj_J7_fill_d0a16_22 J0 J → Fo wi_J7_fill_d0a16_22 wj_J7_fill_d0a16_22 I0 J0 (F_J7_fill_d0a16_22 l1 I J) from key I J Sm.rf Sm.rf
  intro I0 J0 hI hJ
  unfold F_J7_fill_d0a16_22
  refine fr_J7_fill_d0a16_22_L6 _ _ _ _ _ hI bgf _ _ hJ
theorem fr_X1_putOut_L8 (I0 : HI) (J0 : HJ) (I : HI) (kx46 : HJ → Option (Unit × HI × HJ)) (hI : Sm wi_X1_putOut I0 I) (hkx46 : ∀ (J1 : HJ), Sm wj_X1_putOut J0 J1 → Fo wi_X1_putOut wj_X1_putOut I0 J0 (kx46 J1)) : ∀ (K : Nat) (l1 : Int32) (J : HJ) (hJ : Sm wj_X1_putOut J0 J), Fo wi_X1_putOut wj_X1_putOut I0 J0 (F_X1_putOut_L8 I kx46 K l1 J) := by
  intro K
  induction K with
  | zero => intro l1 J hJ; exact Fo.none
  | succ K ih =>
    intro l1 J hJ
    rw [F_X1_putOut_L8]
    refine Fo.ite ?_ ?_
    · exact hkx46 _ hJ
    · refine Fo.callp (fun r4 => ?_)
      refine Fo.gbx ?_
      refine Fo.luj rfl hJ (fun J5 hJ5 => ?_)
      refine Fo.luj rfl hJ5 (fun J6 hJ6 => ?_)
      exact ih _ _ hJ6
theorem fr_X1_putOut  (I : HI) (J : HJ) : Fo wi_X1_putOut wj_X1_putOut I J (F_X1_putOut  I J) := by
  suffices key : ∀ (I0 : HI) (J0 : HJ), Sm wi_X1_putOut I0 I → Sm wj_X1_putOut J0 J → Fo wi_X1_putOut wj_X1_putOut I0 J0 (F_X1_putOut  I J) from key I J Sm.rf Sm.rf
  intro I0 J0 hI hJ
  unfold F_X1_putOut
  refine Fo.callp (fun r3 => ?_)
  refine fr_X1_putOut_L8 _ _ _ _ hI (fun J7 hJ7 => ?_) bgf _ _ hJ
  refine Fo.call (fr_J7_fill_d0a16_22 (0 : Int64) I J7) (by decide) (by decide) hI hJ7 (fun _ I8 J9 hI8 hJ9 => ?_)
  exact Fo.some hI8 hJ9
theorem fr_X1_noteWay_L70 (I0 : HI) (J0 : HJ) (l1 : Int32) (l2 : Int64) (I : HI) (J : HJ) (kx135 : Int32 → Option (Unit × HI × HJ)) (hI : Sm wi_X1_noteWay I0 I) (hJ : Sm wj_X1_noteWay J0 J) (hkx135 : ∀ (y4 : Int32), Fo wi_X1_noteWay wj_X1_noteWay I0 J0 (kx135 y4)) : ∀ (K : Nat) (l4 : Int32) (l5 : Int32) (l6 : Int32), Fo wi_X1_noteWay wj_X1_noteWay I0 J0 (F_X1_noteWay_L70 l1 l2 I J kx135 K l4 l5 l6) := by
  intro K
  induction K with
  | zero => intro l4 l5 l6; exact Fo.none
  | succ K ih =>
    intro l4 l5 l6
    rw [F_X1_noteWay_L70]
    refine Fo.ite ?_ ?_
    · exact hkx135 _
    · refine Fo.ite ?_ ?_
      · exact hkx135 _
      · refine Fo.gbx ?_
        refine Fo.gbx ?_
        refine Fo.jn (fun j => ∀ (y10 : Int32), Fo wi_X1_noteWay wj_X1_noteWay I0 J0 (j y10)) (fun y10 => ?_) (fun j11 hj11 => ?_)
        · refine Fo.gbx ?_
          refine Fo.gbx ?_
          refine Fo.jn (fun j => ∀ (y12 : Int32), Fo wi_X1_noteWay wj_X1_noteWay I0 J0 (j y12)) (fun y12 => ?_) (fun j13 hj13 => ?_)
          · exact ih _ _ _
          · refine Fo.ite ?_ ?_
            · exact hj13 _
            · exact hj13 _
        · refine Fo.ite ?_ ?_
          · exact hj11 _
          · exact hj11 _
theorem fr_X1_noteWay_L154 (I0 : HI) (J0 : HJ) (l1 : Int32) (J : HJ) (hJ : Sm wj_X1_noteWay J0 J) : ∀ (K : Nat) (l6 : Int32) (I : HI) (hI : Sm wi_X1_noteWay I0 I), Fo wi_X1_noteWay wj_X1_noteWay I0 J0 (F_X1_noteWay_L154 l1 J K l6 I) := by
  intro K
  induction K with
  | zero => intro l6 I hI; exact Fo.none
  | succ K ih =>
    intro l6 I hI
    rw [F_X1_noteWay_L154]
    refine Fo.ite ?_ ?_
    · exact Fo.some hI hJ
    · refine Fo.gbx ?_
      refine Fo.gbx ?_
      refine Fo.lui rfl hI (fun I17 hI17 => ?_)
      exact ih _ _ hI17
theorem fr_X1_noteWay (l1 : Int32) (l2 : Int64) (I : HI) (J : HJ) : Fo wi_X1_noteWay wj_X1_noteWay I J (F_X1_noteWay l1 l2 I J) := by
  suffices key : ∀ (I0 : HI) (J0 : HJ), Sm wi_X1_noteWay I0 I → Sm wj_X1_noteWay J0 J → Fo wi_X1_noteWay wj_X1_noteWay I0 J0 (F_X1_noteWay l1 l2 I J) from key I J Sm.rf Sm.rf
  intro I0 J0 hI hJ
  unfold F_X1_noteWay
  refine Fo.lui rfl hI (fun I5 hI5 => ?_)
  refine Fo.jn (fun j => ∀ (y6 : Int32), Fo wi_X1_noteWay wj_X1_noteWay I0 J0 (j y6)) (fun y6 => ?_) (fun j7 hj7 => ?_)
  · refine Fo.jn (fun j => ∀ (y8 : Int32), Fo wi_X1_noteWay wj_X1_noteWay I0 J0 (j y8)) (fun y8 => ?_) (fun j9 hj9 => ?_)
    · refine fr_X1_noteWay_L70 _ _ _ _ _ _ _ hI5 hJ (fun y14 => ?_) bgf _ _ _
      refine Fo.ite ?_ ?_
      · exact Fo.some hI5 hJ
      · refine Fo.luj rfl hJ (fun J15 hJ15 => ?_)
        refine Fo.lui rfl hI5 (fun I16 hI16 => ?_)
        refine fr_X1_noteWay_L154 _ _ _ _ hJ15 bgf _ _ hI16
    · refine Fo.jn (fun j => Fo wi_X1_noteWay wj_X1_noteWay I0 J0 (j)) ?_ (fun j18 hj18 => ?_)
      · exact hj9 _
      · refine Fo.ite ?_ ?_
        · refine Fo.ite ?_ ?_
          · exact hj9 _
          · exact hj18
        · exact hj18
  · refine Fo.jn (fun j => Fo wi_X1_noteWay wj_X1_noteWay I0 J0 (j)) ?_ (fun j19 hj19 => ?_)
    · exact hj7 _
    · refine Fo.ite ?_ ?_
      · exact hj19
      · refine Fo.jn (fun j => Fo wi_X1_noteWay wj_X1_noteWay I0 J0 (j)) ?_ (fun j20 hj20 => ?_)
        · exact hj7 _
        · refine Fo.ite ?_ ?_
          · refine Fo.ite ?_ ?_
            · exact hj20
            · exact hj19
          · exact hj20
theorem fr_X1_carry_L52 (I0 : HI) (J0 : HJ) (l1 : Int32) (l2 : Int32) (l3 : Int32) (l6 : Int64) (I : HI) (kx123 : Int32 → HJ → Option (Unit × HI × HJ)) (hI : Sm wi_X1_carry I0 I) (hkx123 : ∀ (y8 : Int32) (J1 : HJ), Sm wj_X1_carry J0 J1 → Fo wi_X1_carry wj_X1_carry I0 J0 (kx123 y8 J1)) : ∀ (K : Nat) (l8 : Int32) (l9 : Int32) (J : HJ) (hJ : Sm wj_X1_carry J0 J), Fo wi_X1_carry wj_X1_carry I0 J0 (F_X1_carry_L52 l1 l2 l3 l6 I kx123 K l8 l9 J) := by
  intro K
  induction K with
  | zero => intro l8 l9 J hJ; exact Fo.none
  | succ K ih =>
    intro l8 l9 J hJ
    rw [F_X1_carry_L52]
    refine Fo.ite ?_ ?_
    · exact hkx123 _ _ hJ
    · refine Fo.gbx ?_
      refine Fo.gbx ?_
      refine Fo.gbx ?_
      refine Fo.luj rfl hJ (fun J10 hJ10 => ?_)
      refine Fo.gbx ?_
      refine Fo.luj rfl hJ10 (fun J11 hJ11 => ?_)
      refine Fo.gbx ?_
      refine Fo.jn (fun j => ∀ (y12 : Int32) (y13 : Int32), Fo wi_X1_carry wj_X1_carry I0 J0 (j y12 y13)) (fun y12 y13 => ?_) (fun j14 hj14 => ?_)
      · refine Fo.lbv (fun x15 => ?_)
        exact ih _ _ _ hJ11
      · refine Fo.ite ?_ ?_
        · exact hj14 _ _
        · exact hj14 _ _
theorem fr_X1_carry (l1 : Int32) (l2 : Int32) (l3 : Int32) (l4 : Int32) (I : HI) (J : HJ) : Fo wi_X1_carry wj_X1_carry I J (F_X1_carry l1 l2 l3 l4 I J) := by
  suffices key : ∀ (I0 : HI) (J0 : HJ), Sm wi_X1_carry I0 I → Sm wj_X1_carry J0 J → Fo wi_X1_carry wj_X1_carry I0 J0 (F_X1_carry l1 l2 l3 l4 I J) from key I J Sm.rf Sm.rf
  intro I0 J0 hI hJ
  unfold F_X1_carry
  refine Fo.gbx ?_
  refine Fo.gbx ?_
  refine Fo.lbv (fun x8 => ?_)
  refine Fo.ite ?_ ?_
  · exact Fo.some hI hJ
  · refine Fo.ite ?_ ?_
    · refine Fo.gbx ?_
      refine Fo.lbv (fun x9 => ?_)
      refine fr_X1_carry_L52 _ _ _ _ _ _ _ _ hI (fun y16 J17 hJ17 => ?_) bgf _ _ _ hJ
      refine Fo.gbx ?_
      refine Fo.gbx ?_
      refine Fo.luj rfl hJ17 (fun J18 hJ18 => ?_)
      refine Fo.gbx ?_
      refine Fo.gbx ?_
      refine Fo.luj rfl hJ18 (fun J19 hJ19 => ?_)
      refine Fo.ite ?_ ?_
      · exact Fo.some hI hJ19
      · refine Fo.call (fr_X1_noteWay l3 x9 I J19) (by decide) (by decide) hI hJ19 (fun _ I20 J21 hI20 hJ21 => ?_)
        exact Fo.some hI20 hJ21
    · exact Fo.some hI hJ
theorem fr_X1_follow_L78 (rc : Int32 → Int32 → Int32 → Int32 → HI → HJ → Option (Unit × HI × HJ)) (hrc : ∀ (a0 : Int32) (a1 : Int32) (a2 : Int32) (a3 : Int32) (I : HI) (J : HJ), Fo wi_X1_follow wj_X1_follow I J (rc a0 a1 a2 a3 I J)) (I0 : HI) (J0 : HJ) (l1 : Int32) (l3 : Int32) (l4 : Int32) : ∀ (K : Nat) (l6 : Int64) (l8 : Int32) (I : HI) (J : HJ) (hI : Sm wi_X1_follow I0 I) (hJ : Sm wj_X1_follow J0 J), Fo wi_X1_follow wj_X1_follow I0 J0 (F_X1_follow_L78 rc l1 l3 l4 K l6 l8 I J) := by
  intro K
  induction K with
  | zero => intro l6 l8 I J hI hJ; exact Fo.none
  | succ K ih =>
    intro l6 l8 I J hI hJ
    rw [F_X1_follow_L78]
    refine Fo.ite ?_ ?_
    · exact Fo.some hI hJ
    · refine Fo.callp (fun r12 => ?_)
      refine Fo.lbv (fun x13 => ?_)
      refine Fo.gbx ?_
      refine Fo.lbv (fun x14 => ?_)
      refine Fo.jn (fun j => ∀ (I15 : HI) (J16 : HJ), Sm wi_X1_follow I0 I15 → Sm wj_X1_follow J0 J16 → Fo wi_X1_follow wj_X1_follow I0 J0 (j I15 J16)) (fun I15 J16 hI15 hJ16 => ?_) (fun j17 hj17 => ?_)
      · exact ih _ _ _ _ hI15 hJ16
      · refine Fo.ite ?_ ?_
        · refine Fo.gbx ?_
          refine Fo.lui rfl hI (fun I18 hI18 => ?_)
          refine Fo.ite ?_ ?_
          · refine Fo.callp (fun r19 => ?_)
            refine Fo.call (hrc l1 r19 (l3 + (1 : Int32)) x14 I18 J) (by decide) (by decide) hI18 hJ (fun _ I20 J21 hI20 hJ21 => ?_)
            exact hj17 _ _ hI20 hJ21
          · refine Fo.callp (fun r22 => ?_)
            refine Fo.call (fr_X1_carry l1 r22 (l3 + (1 : Int32)) ((I18 x_board f_Board_supply) - x14) I18 J) (by decide) (by decide) hI18 hJ (fun _ I23 J24 hI23 hJ24 => ?_)
            exact hj17 _ _ hI23 hJ24
        · exact hj17 _ _ hI hJ
theorem fr_X1_follow_B (rc : Int32 → Int32 → Int32 → Int32 → HI → HJ → Option (Unit × HI × HJ)) (hrc : ∀ (a0 : Int32) (a1 : Int32) (a2 : Int32) (a3 : Int32) (I : HI) (J : HJ), Fo wi_X1_follow wj_X1_follow I J (rc a0 a1 a2 a3 I J)) (l1 : Int32) (l2 : Int32) (l3 : Int32) (l4 : Int32) (I : HI) (J : HJ) : Fo wi_X1_follow wj_X1_follow I J (F_X1_follow_B rc l1 l2 l3 l4 I J) := by
  suffices key : ∀ (I0 : HI) (J0 : HJ), Sm wi_X1_follow I0 I → Sm wj_X1_follow J0 J → Fo wi_X1_follow wj_X1_follow I0 J0 (F_X1_follow_B rc l1 l2 l3 l4 I J) from key I J Sm.rf Sm.rf
  intro I0 J0 hI hJ
  unfold F_X1_follow_B
  refine Fo.ite ?_ ?_
  · exact Fo.some hI hJ
  · refine Fo.ite ?_ ?_
    · refine Fo.jn (fun j => ∀ (y5 : Int32), Fo wi_X1_follow wj_X1_follow I0 J0 (j y5)) (fun y5 => ?_) (fun j6 hj6 => ?_)
      · refine Fo.gbx ?_
        refine Fo.jn (fun j => ∀ (y7 : Int64) (y8 : Int64), Fo wi_X1_follow wj_X1_follow I0 J0 (j y7 y8)) (fun y7 y8 => ?_) (fun j9 hj9 => ?_)
        · refine Fo.lbv (fun x10 => ?_)
          refine Fo.callp (fun r11 => ?_)
          refine fr_X1_follow_L78 rc hrc _ _ _ _ _ bgf _ _ _ _ hI hJ
        · refine Fo.ite ?_ ?_
          · exact hj9 _ _
          · exact hj9 _ _
      · refine Fo.ite ?_ ?_
        · exact hj6 _
        · exact hj6 _
    · exact Fo.some hI hJ
theorem fr_X1_follow : ∀ (n : Nat) (l1 : Int32) (l2 : Int32) (l3 : Int32) (l4 : Int32) (I : HI) (J : HJ), Fo wi_X1_follow wj_X1_follow I J (F_X1_follow n l1 l2 l3 l4 I J) := by
  intro n
  induction n with
  | zero => intro l1 l2 l3 l4 I J; exact Fo.none
  | succ n ih => intro l1 l2 l3 l4 I J; exact fr_X1_follow_B (F_X1_follow n) ih l1 l2 l3 l4 I J
theorem fr_X1_run_L32 (I0 : HI) (J0 : HJ) (I : HI) (kx104 : HJ → Option (Int64 × HI × HJ)) (hI : Sm wi_X1_run I0 I) (hkx104 : ∀ (J1 : HJ), Sm wj_X1_run J0 J1 → Fo wi_X1_run wj_X1_run I0 J0 (kx104 J1)) : ∀ (K : Nat) (l1 : Int32) (J : HJ) (hJ : Sm wj_X1_run J0 J), Fo wi_X1_run wj_X1_run I0 J0 (F_X1_run_L32 I kx104 K l1 J) := by
  intro K
  induction K with
  | zero => intro l1 J hJ; exact Fo.none
  | succ K ih =>
    intro l1 J hJ
    rw [F_X1_run_L32]
    refine Fo.ite ?_ ?_
    · exact hkx104 _ hJ
    · refine Fo.jn (fun j => ∀ (J9 : HJ), Sm wj_X1_run J0 J9 → Fo wi_X1_run wj_X1_run I0 J0 (j J9)) (fun J9 hJ9 => ?_) (fun j10 hj10 => ?_)
      · exact ih _ _ hJ9
      · refine Fo.ite ?_ ?_
        · refine Fo.ite ?_ ?_
          · refine Fo.gbx ?_
            refine Fo.luj rfl hJ (fun J11 hJ11 => ?_)
            exact hj10 _ hJ11
          · exact hj10 _ hJ
        · refine Fo.gbx ?_
          refine Fo.luj rfl hJ (fun J12 hJ12 => ?_)
          exact hj10 _ hJ12
theorem fr_X1_run_L106 (I0 : HI) (J0 : HJ) (kx142 : HI → HJ → Option (Int64 × HI × HJ)) (hkx142 : ∀ (I1 : HI) (J1 : HJ), Sm wi_X1_run I0 I1 → Sm wj_X1_run J0 J1 → Fo wi_X1_run wj_X1_run I0 J0 (kx142 I1 J1)) : ∀ (K : Nat) (l1 : Int32) (I : HI) (J : HJ) (hI : Sm wi_X1_run I0 I) (hJ : Sm wj_X1_run J0 J), Fo wi_X1_run wj_X1_run I0 J0 (F_X1_run_L106 kx142 K l1 I J) := by
  intro K
  induction K with
  | zero => intro l1 I J hI hJ; exact Fo.none
  | succ K ih =>
    intro l1 I J hI hJ
    rw [F_X1_run_L106]
    refine Fo.ite ?_ ?_
    · exact hkx142 _ _ hI hJ
    · refine Fo.jn (fun j => ∀ (I14 : HI) (J15 : HJ), Sm wi_X1_run I0 I14 → Sm wj_X1_run J0 J15 → Fo wi_X1_run wj_X1_run I0 J0 (j I14 J15)) (fun I14 J15 hI14 hJ15 => ?_) (fun j16 hj16 => ?_)
      · exact ih _ _ _ hI14 hJ15
      · refine Fo.ite ?_ ?_
        · exact hj16 _ _ hI hJ
        · refine Fo.call (fr_X1_follow 20 l1 l1 (0 : Int32) (0 : Int32) I J) (by decide) (by decide) hI hJ (fun _ I17 J18 hI17 hJ18 => ?_)
          exact hj16 _ _ hI17 hJ18
theorem fr_X1_run  (I : HI) (J : HJ) : Fo wi_X1_run wj_X1_run I J (F_X1_run  I J) := by
  suffices key : ∀ (I0 : HI) (J0 : HJ), Sm wi_X1_run I0 I → Sm wj_X1_run J0 J → Fo wi_X1_run wj_X1_run I0 J0 (F_X1_run  I J) from key I J Sm.rf Sm.rf
  intro I0 J0 hI hJ
  unfold F_X1_run
  refine Fo.call (fr_X1_putOut I J) (by decide) (by decide) hI hJ (fun _ I5 J6 hI5 hJ6 => ?_)
  refine Fo.ite ?_ ?_
  · exact Fo.some hI5 hJ6
  · refine Fo.ite ?_ ?_
    · exact Fo.some hI5 hJ6
    · refine Fo.luj rfl hJ6 (fun J7 hJ7 => ?_)
      refine Fo.luj rfl hJ7 (fun J8 hJ8 => ?_)
      refine fr_X1_run_L32 _ _ _ _ hI5 (fun J13 hJ13 => ?_) bgf _ _ hJ8
      refine fr_X1_run_L106 _ _ _ (fun I19 J20 hI19 hJ20 => ?_) bgf _ _ _ hI5 hJ13
      refine Fo.callp (fun r21 => ?_)
      exact Fo.some hI19 hJ20
theorem fr_X1_glowing (l1 : Int32) (l2 : Int32) (I : HI) (J : HJ) : Fo wi_X1_glowing wj_X1_glowing I J (F_X1_glowing l1 l2 I J) := by
  suffices key : ∀ (I0 : HI) (J0 : HJ), Sm wi_X1_glowing I0 I → Sm wj_X1_glowing J0 J → Fo wi_X1_glowing wj_X1_glowing I0 J0 (F_X1_glowing l1 l2 I J) from key I J Sm.rf Sm.rf
  intro I0 J0 hI hJ
  unfold F_X1_glowing
  refine Fo.call (fr_X1_lay l1 l2 I J) (by decide) (by decide) hI hJ (fun _ I1 J2 hI1 hJ2 => ?_)
  refine Fo.call (fr_X1_run I1 J2) (by decide) (by decide) hI1 hJ2 (fun r3 I4 J5 hI4 hJ5 => ?_)
  exact Fo.some hI4 hJ5
theorem fr_X11_put (l1 : Int32) (l2 : Int32) (I : HI) (J : HJ) : Fo wi_X11_put wj_X11_put I J (F_X11_put l1 l2 I J) := by
  suffices key : ∀ (I0 : HI) (J0 : HJ), Sm wi_X11_put I0 I → Sm wj_X11_put J0 J → Fo wi_X11_put wj_X11_put I0 J0 (F_X11_put l1 l2 I J) from key I J Sm.rf Sm.rf
  intro I0 J0 hI hJ
  unfold F_X11_put
  refine Fo.callp (fun r3 => ?_)
  refine Fo.ite ?_ ?_
  · exact Fo.some hI hJ
  · refine Fo.lui rfl hI (fun I4 hI4 => ?_)
    refine Fo.lui rfl hI4 (fun I5 hI5 => ?_)
    refine Fo.call (fr_X1_glowing l1 l2 I5 J) (by decide) (by decide) hI5 hJ (fun r6 I7 J8 hI7 hJ8 => ?_)
    refine Fo.callp (fun r9 => ?_)
    exact Fo.some hI7 hJ8
theorem fr_X11_glows  (I : HI) (J : HJ) : Fo wi_X11_glows wj_X11_glows I J (F_X11_glows  I J) := by
  suffices key : ∀ (I0 : HI) (J0 : HJ), Sm wi_X11_glows I0 I → Sm wj_X11_glows J0 J → Fo wi_X11_glows wj_X11_glows I0 J0 (F_X11_glows  I J) from key I J Sm.rf Sm.rf
  intro I0 J0 hI hJ
  unfold F_X11_glows
  refine Fo.call (fr_X1_glowing (I x_notes f_Notes_high) (I x_notes f_Notes_low) I J) (by decide) (by decide) hI hJ (fun r1 I2 J3 hI2 hJ3 => ?_)
  exact Fo.some hI2 hJ3
theorem fr_X11_ghosts  (I : HI) (J : HJ) : Fo wi_X11_ghosts wj_X11_ghosts I J (F_X11_ghosts  I J) := by
  suffices key : ∀ (I0 : HI) (J0 : HJ), Sm wi_X11_ghosts I0 I → Sm wj_X11_ghosts J0 J → Fo wi_X11_ghosts wj_X11_ghosts I0 J0 (F_X11_ghosts  I J) from key I J Sm.rf Sm.rf
  intro I0 J0 hI hJ
  unfold F_X11_ghosts
  refine Fo.call (fr_X1_glowing (I x_notes f_Notes_high) (I x_notes f_Notes_low) I J) (by decide) (by decide) hI hJ (fun r1 I2 J3 hI2 hJ3 => ?_)
  refine Fo.callp (fun r4 => ?_)
  exact Fo.some hI2 hJ3
theorem fr_X1_watch (l1 : Int32) (l2 : Int32) (l3 : Int32) (I : HI) (J : HJ) : Fo wi_X1_watch wj_X1_watch I J (F_X1_watch l1 l2 l3 I J) := by
  suffices key : ∀ (I0 : HI) (J0 : HJ), Sm wi_X1_watch I0 I → Sm wj_X1_watch J0 J → Fo wi_X1_watch wj_X1_watch I0 J0 (F_X1_watch l1 l2 l3 I J) from key I J Sm.rf Sm.rf
  intro I0 J0 hI hJ
  unfold F_X1_watch
  refine Fo.lui rfl hI (fun I6 hI6 => ?_)
  refine Fo.luj rfl hJ (fun J7 hJ7 => ?_)
  refine Fo.lui rfl hI6 (fun I8 hI8 => ?_)
  refine Fo.lui rfl hI8 (fun I9 hI9 => ?_)
  refine Fo.call (fr_X1_lay l2 l3 I9 J7) (by decide) (by decide) hI9 hJ7 (fun _ I10 J11 hI10 hJ11 => ?_)
  refine Fo.call (fr_X1_run I10 J11) (by decide) (by decide) hI10 hJ11 (fun r12 I13 J14 hI13 hJ14 => ?_)
  refine Fo.lui rfl hI13 (fun I15 hI15 => ?_)
  exact Fo.some hI15 hJ14
theorem fr_X10_clear  (I : HI) (J : HJ) : Fo wi_X10_clear wj_X10_clear I J (F_X10_clear  I J) := by
  suffices key : ∀ (I0 : HI) (J0 : HJ), Sm wi_X10_clear I0 I → Sm wj_X10_clear J0 J → Fo wi_X10_clear wj_X10_clear I0 J0 (F_X10_clear  I J) from key I J Sm.rf Sm.rf
  intro I0 J0 hI hJ
  unfold F_X10_clear
  refine Fo.lui rfl hI (fun I2 hI2 => ?_)
  exact Fo.some hI2 hJ
theorem fr_X10_add (l1 : Int64) (I : HI) (J : HJ) : Fo wi_X10_add wj_X10_add I J (F_X10_add l1 I J) := by
  suffices key : ∀ (I0 : HI) (J0 : HJ), Sm wi_X10_add I0 I → Sm wj_X10_add J0 J → Fo wi_X10_add wj_X10_add I0 J0 (F_X10_add l1 I J) from key I J Sm.rf Sm.rf
  intro I0 J0 hI hJ
  unfold F_X10_add
  refine Fo.ite ?_ ?_
  · exact Fo.some hI hJ
  · refine Fo.gbx ?_
    refine Fo.luj rfl hJ (fun J3 hJ3 => ?_)
    refine Fo.lui rfl hI (fun I4 hI4 => ?_)
    exact Fo.some hI4 hJ3
theorem fr_X11_light (l1 : Int32) (I : HI) (J : HJ) : Fo wi_X11_light wj_X11_light I J (F_X11_light l1 I J) := by
  suffices key : ∀ (I0 : HI) (J0 : HJ), Sm wi_X11_light I0 I → Sm wj_X11_light J0 J → Fo wi_X11_light wj_X11_light I0 J0 (F_X11_light l1 I J) from key I J Sm.rf Sm.rf
  intro I0 J0 hI hJ
  unfold F_X11_light
  refine Fo.callp (fun r1 => ?_)
  refine Fo.ite ?_ ?_
  · exact Fo.some hI hJ
  · refine Fo.call (fr_X1_watch l1 (I x_notes f_Notes_high) (I x_notes f_Notes_low) I J) (by decide) (by decide) hI hJ (fun _ I2 J3 hI2 hJ3 => ?_)
    refine Fo.call (fr_X10_clear I2 J3) (by decide) (by decide) hI2 hJ3 (fun _ I4 J5 hI4 hJ5 => ?_)
    refine Fo.call (fr_X10_add (Int32.toInt64 (I4 x_flow f_Flow_passing)) I4 J5) (by decide) (by decide) hI4 hJ5 (fun _ I6 J7 hI6 hJ7 => ?_)
    refine Fo.call (fr_X10_add (J7 x_flow f_Flow_best) I6 J7) (by decide) (by decide) hI6 hJ7 (fun _ I8 J9 hI8 hJ9 => ?_)
    refine Fo.gbx ?_
    exact Fo.some hI8 hJ9
theorem fr_X11_why_L60 (I0 : HI) (J0 : HJ) (kx94 : HI → HJ → Option (Int64 × HI × HJ)) (hkx94 : ∀ (I1 : HI) (J1 : HJ), Sm wi_X11_why I0 I1 → Sm wj_X11_why J0 J1 → Fo wi_X11_why wj_X11_why I0 J0 (kx94 I1 J1)) : ∀ (K : Nat) (l2 : Int32) (I : HI) (J : HJ) (hI : Sm wi_X11_why I0 I) (hJ : Sm wj_X11_why J0 J), Fo wi_X11_why wj_X11_why I0 J0 (F_X11_why_L60 kx94 K l2 I J) := by
  intro K
  induction K with
  | zero => intro l2 I J hI hJ; exact Fo.none
  | succ K ih =>
    intro l2 I J hI hJ
    rw [F_X11_why_L60]
    refine Fo.ite ?_ ?_
    · exact hkx94 _ _ hI hJ
    · refine Fo.gbx ?_
      refine Fo.call (fr_X10_add (Int32.toInt64 (I x_flow_bestWay (Int32.toNatClampNeg l2))) I J) (by decide) (by decide) hI hJ (fun _ I6 J7 hI6 hJ7 => ?_)
      exact ih _ _ _ hI6 hJ7
theorem fr_X11_why (l1 : Int32) (I : HI) (J : HJ) : Fo wi_X11_why wj_X11_why I J (F_X11_why l1 I J) := by
  suffices key : ∀ (I0 : HI) (J0 : HJ), Sm wi_X11_why I0 I → Sm wj_X11_why J0 J → Fo wi_X11_why wj_X11_why I0 J0 (F_X11_why l1 I J) from key I J Sm.rf Sm.rf
  intro I0 J0 hI hJ
  unfold F_X11_why
  refine Fo.callp (fun r1 => ?_)
  refine Fo.ite ?_ ?_
  · exact Fo.some hI hJ
  · refine Fo.call (fr_X1_watch l1 (I x_notes f_Notes_high) (I x_notes f_Notes_low) I J) (by decide) (by decide) hI hJ (fun _ I2 J3 hI2 hJ3 => ?_)
    refine Fo.ite ?_ ?_
    · exact Fo.some hI2 hJ3
    · refine Fo.call (fr_X10_clear I2 J3) (by decide) (by decide) hI2 hJ3 (fun _ I4 J5 hI4 hJ5 => ?_)
      refine fr_X11_why_L60 _ _ _ (fun I8 J9 hI8 hJ9 => ?_) bgf _ _ _ hI4 hJ5
      exact Fo.some hI8 hJ9
theorem fr_X11_draws (l1 : Int32) (I : HI) (J : HJ) : Fo wi_X11_draws wj_X11_draws I J (F_X11_draws l1 I J) := by
  suffices key : ∀ (I0 : HI) (J0 : HJ), Sm wi_X11_draws I0 I → Sm wj_X11_draws J0 J → Fo wi_X11_draws wj_X11_draws I0 J0 (F_X11_draws l1 I J) from key I J Sm.rf Sm.rf
  intro I0 J0 hI hJ
  unfold F_X11_draws
  refine Fo.callp (fun r1 => ?_)
  refine Fo.ite ?_ ?_
  · exact Fo.some hI hJ
  · refine Fo.call (fr_X1_glowing (I x_notes f_Notes_high) (I x_notes f_Notes_low) I J) (by decide) (by decide) hI hJ (fun r2 I3 J4 hI3 hJ4 => ?_)
    refine Fo.gbx ?_
    exact Fo.some hI3 hJ4
theorem fr_X11_brightest_L44 (I0 : HI) (J0 : HJ) (l1 : Int64) (I : HI) (J : HJ) (kx139 : Int32 → Int32 → Option (Int32 × HI × HJ)) (hI : Sm wi_X11_brightest I0 I) (hJ : Sm wj_X11_brightest J0 J) (hkx139 : ∀ (y3 : Int32) (y4 : Int32), Fo wi_X11_brightest wj_X11_brightest I0 J0 (kx139 y3 y4)) : ∀ (K : Nat) (l3 : Int32) (l4 : Int32) (l5 : Int32), Fo wi_X11_brightest wj_X11_brightest I0 J0 (F_X11_brightest_L44 l1 I J kx139 K l3 l4 l5) := by
  intro K
  induction K with
  | zero => intro l3 l4 l5; exact Fo.none
  | succ K ih =>
    intro l3 l4 l5
    rw [F_X11_brightest_L44]
    refine Fo.ite ?_ ?_
    · exact hkx139 _ _
    · refine Fo.jn (fun j => ∀ (y7 : Int32) (y8 : Int32), Fo wi_X11_brightest wj_X11_brightest I0 J0 (j y7 y8)) (fun y7 y8 => ?_) (fun j9 hj9 => ?_)
      · exact ih _ _ _
      · refine Fo.ite ?_ ?_
        · exact hj9 _ _
        · refine Fo.gbx ?_
          refine Fo.gbx ?_
          refine Fo.jn (fun j => ∀ (y10 : Int32), Fo wi_X11_brightest wj_X11_brightest I0 J0 (j y10)) (fun y10 => ?_) (fun j11 hj11 => ?_)
          · refine Fo.gbx ?_
            refine Fo.gbx ?_
            refine Fo.jn (fun j => ∀ (y12 : Int32), Fo wi_X11_brightest wj_X11_brightest I0 J0 (j y12)) (fun y12 => ?_) (fun j13 hj13 => ?_)
            · exact hj9 _ _
            · refine Fo.ite ?_ ?_
              · exact hj13 _
              · exact hj13 _
          · refine Fo.ite ?_ ?_
            · exact hj11 _
            · exact hj11 _
theorem fr_X11_brightest  (I : HI) (J : HJ) : Fo wi_X11_brightest wj_X11_brightest I J (F_X11_brightest  I J) := by
  suffices key : ∀ (I0 : HI) (J0 : HJ), Sm wi_X11_brightest I0 I → Sm wj_X11_brightest J0 J → Fo wi_X11_brightest wj_X11_brightest I0 J0 (F_X11_brightest  I J) from key I J Sm.rf Sm.rf
  intro I0 J0 hI hJ
  unfold F_X11_brightest
  refine Fo.call (fr_X1_glowing (I x_notes f_Notes_high) (I x_notes f_Notes_low) I J) (by decide) (by decide) hI hJ (fun r2 I3 J4 hI3 hJ4 => ?_)
  refine Fo.ite ?_ ?_
  · exact Fo.some hI3 hJ4
  · refine Fo.callp (fun r5 => ?_)
    refine Fo.lbv (fun x6 => ?_)
    refine fr_X11_brightest_L44 _ _ _ _ _ _ hI3 hJ4 (fun y14 y15 => ?_) bgf _ _ _
    refine Fo.call (fr_X10_clear I3 J4) (by decide) (by decide) hI3 hJ4 (fun _ I16 J17 hI16 hJ17 => ?_)
    refine Fo.gbx ?_
    refine Fo.call (fr_X10_add (J17 x_flow_light (Int32.toNatClampNeg y14)) I16 J17) (by decide) (by decide) hI16 hJ17 (fun _ I18 J19 hI18 hJ19 => ?_)
    refine Fo.call (fr_X10_add (Int32.toInt64 y15) I18 J19) (by decide) (by decide) hI18 hJ19 (fun _ I20 J21 hI20 hJ21 => ?_)
    refine Fo.gbx ?_
    refine Fo.call (fr_X10_add (J21 x_flow_light (Int32.toNatClampNeg y15)) I20 J21) (by decide) (by decide) hI20 hJ21 (fun _ I22 J23 hI22 hJ23 => ?_)
    exact Fo.some hI22 hJ23
theorem fr_X8_refresh_L30 (I0 : HI) (J0 : HJ) (kx158 : HI → HJ → Option (Unit × HI × HJ)) (hkx158 : ∀ (I1 : HI) (J1 : HJ), Sm wi_X8_refresh I0 I1 → Sm wj_X8_refresh J0 J1 → Fo wi_X8_refresh wj_X8_refresh I0 J0 (kx158 I1 J1)) : ∀ (K : Nat) (l1 : Int32) (I : HI) (J : HJ) (hI : Sm wi_X8_refresh I0 I) (hJ : Sm wj_X8_refresh J0 J), Fo wi_X8_refresh wj_X8_refresh I0 J0 (F_X8_refresh_L30 kx158 K l1 I J) := by
  intro K
  induction K with
  | zero => intro l1 I J hI hJ; exact Fo.none
  | succ K ih =>
    intro l1 I J hI hJ
    rw [F_X8_refresh_L30]
    refine Fo.ite ?_ ?_
    · exact hkx158 _ _ hI hJ
    · refine Fo.callp (fun r9 => ?_)
      refine Fo.gbx ?_
      refine Fo.lui rfl hI (fun I10 hI10 => ?_)
      refine Fo.callp (fun r11 => ?_)
      refine Fo.gbx ?_
      refine Fo.lui rfl hI10 (fun I12 hI12 => ?_)
      refine Fo.gbx ?_
      refine Fo.gbx ?_
      refine Fo.call (fr_X1_lay (I12 x_table_high (Int32.toNatClampNeg l1)) (I12 x_table_low (Int32.toNatClampNeg l1)) I12 J) (by decide) (by decide) hI12 hJ (fun _ I13 J14 hI13 hJ14 => ?_)
      refine Fo.call (fr_X1_run I13 J14) (by decide) (by decide) hI13 hJ14 (fun r15 I16 J17 hI16 hJ17 => ?_)
      refine Fo.gbx ?_
      refine Fo.luj rfl hJ17 (fun J18 hJ18 => ?_)
      refine Fo.gbx ?_
      refine Fo.gbx ?_
      refine Fo.gbx ?_
      refine Fo.callp (fun r19 => ?_)
      refine Fo.jn (fun j => ∀ (y20 : Int32) (y21 : Int32), Fo wi_X8_refresh wj_X8_refresh I0 J0 (j y20 y21)) (fun y20 y21 => ?_) (fun j22 hj22 => ?_)
      · refine Fo.gbx ?_
        refine Fo.lui rfl hI16 (fun I23 hI23 => ?_)
        exact ih _ _ _ hI23 hJ18
      · refine Fo.ite ?_ ?_
        · exact hj22 _ _
        · exact hj22 _ _
theorem fr_X8_refresh  (I : HI) (J : HJ) : Fo wi_X8_refresh wj_X8_refresh I J (F_X8_refresh  I J) := by
  suffices key : ∀ (I0 : HI) (J0 : HJ), Sm wi_X8_refresh I0 I → Sm wj_X8_refresh J0 J → Fo wi_X8_refresh wj_X8_refresh I0 J0 (F_X8_refresh  I J) from key I J Sm.rf Sm.rf
  intro I0 J0 hI hJ
  unfold F_X8_refresh
  refine Fo.ite ?_ ?_
  · refine Fo.callp (fun r7 => ?_)
    refine Fo.lui rfl hI (fun I8 hI8 => ?_)
    refine fr_X8_refresh_L30 _ _ _ (fun I24 J25 hI24 hJ25 => ?_) bgf _ _ _ hI8 hJ
    refine Fo.lui rfl hI24 (fun I26 hI26 => ?_)
    exact Fo.some hI26 hJ25
  · exact Fo.some hI hJ
theorem fr_X11_openTable  (I : HI) (J : HJ) : Fo wi_X11_openTable wj_X11_openTable I J (F_X11_openTable  I J) := by
  suffices key : ∀ (I0 : HI) (J0 : HJ), Sm wi_X11_openTable I0 I → Sm wj_X11_openTable J0 J → Fo wi_X11_openTable wj_X11_openTable I0 J0 (F_X11_openTable  I J) from key I J Sm.rf Sm.rf
  intro I0 J0 hI hJ
  unfold F_X11_openTable
  refine Fo.callp (fun r1 => ?_)
  refine Fo.ite ?_ ?_
  · exact Fo.some hI hJ
  · refine Fo.call (fr_X8_refresh I J) (by decide) (by decide) hI hJ (fun _ I2 J3 hI2 hJ3 => ?_)
    exact Fo.some hI2 hJ3
theorem fr_X11_shows_L32 (I0 : HI) (J0 : HJ) (l1 : Int64) (I : HI) (J : HJ) (kx80 : Int32 → Int32 → Option (Int32 × HI × HJ)) (hI : Sm wi_X11_shows I0 I) (hJ : Sm wj_X11_shows J0 J) (hkx80 : ∀ (y3 : Int32) (y4 : Int32), Fo wi_X11_shows wj_X11_shows I0 J0 (kx80 y3 y4)) : ∀ (K : Nat) (l3 : Int32) (l4 : Int32) (l5 : Int32), Fo wi_X11_shows wj_X11_shows I0 J0 (F_X11_shows_L32 l1 I J kx80 K l3 l4 l5) := by
  intro K
  induction K with
  | zero => intro l3 l4 l5; exact Fo.none
  | succ K ih =>
    intro l3 l4 l5
    rw [F_X11_shows_L32]
    refine Fo.ite ?_ ?_
    · exact hkx80 _ _
    · refine Fo.gbx ?_
      refine Fo.jn (fun j => ∀ (y5 : Int32) (y6 : Int32), Fo wi_X11_shows wj_X11_shows I0 J0 (j y5 y6)) (fun y5 y6 => ?_) (fun j7 hj7 => ?_)
      · exact ih _ _ _
      · refine Fo.ite ?_ ?_
        · refine Fo.jn (fun j => ∀ (y8 : Int32), Fo wi_X11_shows wj_X11_shows I0 J0 (j y8)) (fun y8 => ?_) (fun j9 hj9 => ?_)
          · exact hj7 _ _
          · refine Fo.ite ?_ ?_
            · exact hj9 _
            · exact hj9 _
        · exact hj7 _ _
theorem fr_X11_shows (l1 : Int64) (I : HI) (J : HJ) : Fo wi_X11_shows wj_X11_shows I J (F_X11_shows l1 I J) := by
  suffices key : ∀ (I0 : HI) (J0 : HJ), Sm wi_X11_shows I0 I → Sm wj_X11_shows J0 J → Fo wi_X11_shows wj_X11_shows I0 J0 (F_X11_shows l1 I J) from key I J Sm.rf Sm.rf
  intro I0 J0 hI hJ
  unfold F_X11_shows
  refine Fo.callp (fun r1 => ?_)
  refine Fo.ite ?_ ?_
  · exact Fo.some hI hJ
  · refine Fo.call (fr_X11_openTable I J) (by decide) (by decide) hI hJ (fun r2 I3 J4 hI3 hJ4 => ?_)
    refine Fo.ite ?_ ?_
    · exact Fo.some hI3 hJ4
    · refine fr_X11_shows_L32 _ _ _ _ _ _ hI3 hJ4 (fun y10 y11 => ?_) bgf _ _ _
      refine Fo.ite ?_ ?_
      · exact Fo.some hI3 hJ4
      · refine Fo.call (fr_X10_clear I3 J4) (by decide) (by decide) hI3 hJ4 (fun _ I12 J13 hI12 hJ13 => ?_)
        refine Fo.gbx ?_
        refine Fo.call (fr_X10_add (Int32.toInt64 (I12 x_table_high (Int32.toNatClampNeg y10))) I12 J13) (by decide) (by decide) hI12 hJ13 (fun _ I14 J15 hI14 hJ15 => ?_)
        refine Fo.gbx ?_
        refine Fo.call (fr_X10_add (Int32.toInt64 (I14 x_table_low (Int32.toNatClampNeg y10))) I14 J15) (by decide) (by decide) hI14 hJ15 (fun _ I16 J17 hI16 hJ17 => ?_)
        refine Fo.call (fr_X10_add (Int32.toInt64 y11) I16 J17) (by decide) (by decide) hI16 hJ17 (fun _ I18 J19 hI18 hJ19 => ?_)
        exact Fo.some hI18 hJ19
theorem fr_X11_bars_L32 (I0 : HI) (J0 : HJ) (l1 : Int64) (I : HI) (J : HJ) (kx111 : Int32 → Int32 → Option (Int32 × HI × HJ)) (hI : Sm wi_X11_bars I0 I) (hJ : Sm wj_X11_bars J0 J) (hkx111 : ∀ (y3 : Int32) (y4 : Int32), Fo wi_X11_bars wj_X11_bars I0 J0 (kx111 y3 y4)) : ∀ (K : Nat) (l3 : Int32) (l4 : Int32) (l5 : Int32), Fo wi_X11_bars wj_X11_bars I0 J0 (F_X11_bars_L32 l1 I J kx111 K l3 l4 l5) := by
  intro K
  induction K with
  | zero => intro l3 l4 l5; exact Fo.none
  | succ K ih =>
    intro l3 l4 l5
    rw [F_X11_bars_L32]
    refine Fo.ite ?_ ?_
    · exact hkx111 _ _
    · refine Fo.gbx ?_
      refine Fo.jn (fun j => ∀ (y5 : Int32) (y6 : Int32), Fo wi_X11_bars wj_X11_bars I0 J0 (j y5 y6)) (fun y5 y6 => ?_) (fun j7 hj7 => ?_)
      · exact ih _ _ _
      · refine Fo.ite ?_ ?_
        · refine Fo.gbx ?_
          refine Fo.callp (fun r8 => ?_)
          refine Fo.jn (fun j => Fo wi_X11_bars wj_X11_bars I0 J0 (j)) ?_ (fun j9 hj9 => ?_)
          · exact hj7 _ _
          · refine Fo.ite ?_ ?_
            · exact hj9
            · refine Fo.ite ?_ ?_
              · exact hj7 _ _
              · exact hj9
        · exact hj7 _ _
theorem fr_X11_bars (l1 : Int64) (I : HI) (J : HJ) : Fo wi_X11_bars wj_X11_bars I J (F_X11_bars l1 I J) := by
  suffices key : ∀ (I0 : HI) (J0 : HJ), Sm wi_X11_bars I0 I → Sm wj_X11_bars J0 J → Fo wi_X11_bars wj_X11_bars I0 J0 (F_X11_bars l1 I J) from key I J Sm.rf Sm.rf
  intro I0 J0 hI hJ
  unfold F_X11_bars
  refine Fo.callp (fun r1 => ?_)
  refine Fo.ite ?_ ?_
  · exact Fo.some hI hJ
  · refine Fo.call (fr_X11_openTable I J) (by decide) (by decide) hI hJ (fun r2 I3 J4 hI3 hJ4 => ?_)
    refine Fo.ite ?_ ?_
    · exact Fo.some hI3 hJ4
    · refine fr_X11_bars_L32 _ _ _ _ _ _ hI3 hJ4 (fun y10 y11 => ?_) bgf _ _ _
      refine Fo.ite ?_ ?_
      · exact Fo.some hI3 hJ4
      · refine Fo.call (fr_X10_clear I3 J4) (by decide) (by decide) hI3 hJ4 (fun _ I12 J13 hI12 hJ13 => ?_)
        refine Fo.call (fr_X10_add (Int32.toInt64 y11) I12 J13) (by decide) (by decide) hI12 hJ13 (fun _ I14 J15 hI14 hJ15 => ?_)
        refine Fo.jn (fun j => ∀ (y16 : Int64), Fo wi_X11_bars wj_X11_bars I0 J0 (j y16)) (fun y16 => ?_) (fun j17 hj17 => ?_)
        · refine Fo.call (fr_X10_add y16 I14 J15) (by decide) (by decide) hI14 hJ15 (fun _ I18 J19 hI18 hJ19 => ?_)
          exact Fo.some hI18 hJ19
        · refine Fo.ite ?_ ?_
          · exact hj17 _
          · refine Fo.gbx ?_
            refine Fo.callp (fun r20 => ?_)
            exact hj17 _
theorem fr_X11_most_L16 (I0 : HI) (J0 : HJ) (I : HI) (J : HJ) (kx70 : Int32 → Int32 → Option (Int32 × HI × HJ)) (hI : Sm wi_X11_most I0 I) (hJ : Sm wj_X11_most J0 J) (hkx70 : ∀ (y1 : Int32) (y2 : Int32), Fo wi_X11_most wj_X11_most I0 J0 (kx70 y1 y2)) : ∀ (K : Nat) (l1 : Int32) (l2 : Int32) (l3 : Int32), Fo wi_X11_most wj_X11_most I0 J0 (F_X11_most_L16 I J kx70 K l1 l2 l3) := by
  intro K
  induction K with
  | zero => intro l1 l2 l3; exact Fo.none
  | succ K ih =>
    intro l1 l2 l3
    rw [F_X11_most_L16]
    refine Fo.ite ?_ ?_
    · exact hkx70 _ _
    · refine Fo.gbx ?_
      refine Fo.callp (fun r4 => ?_)
      refine Fo.gbx ?_
      refine Fo.jn (fun j => ∀ (y5 : Int32) (y6 : Int32), Fo wi_X11_most wj_X11_most I0 J0 (j y5 y6)) (fun y5 y6 => ?_) (fun j7 hj7 => ?_)
      · exact ih _ _ _
      · refine Fo.ite ?_ ?_
        · exact hj7 _ _
        · refine Fo.ite ?_ ?_
          · exact hj7 _ _
          · exact hj7 _ _
theorem fr_X11_most  (I : HI) (J : HJ) : Fo wi_X11_most wj_X11_most I J (F_X11_most  I J) := by
  suffices key : ∀ (I0 : HI) (J0 : HJ), Sm wi_X11_most I0 I → Sm wj_X11_most J0 J → Fo wi_X11_most wj_X11_most I0 J0 (F_X11_most  I J) from key I J Sm.rf Sm.rf
  intro I0 J0 hI hJ
  unfold F_X11_most
  refine Fo.call (fr_X11_openTable I J) (by decide) (by decide) hI hJ (fun r1 I2 J3 hI2 hJ3 => ?_)
  refine Fo.ite ?_ ?_
  · exact Fo.some hI2 hJ3
  · refine fr_X11_most_L16 _ _ _ _ _ hI2 hJ3 (fun y8 y9 => ?_) bgf _ _ _
    refine Fo.call (fr_X10_clear I2 J3) (by decide) (by decide) hI2 hJ3 (fun _ I10 J11 hI10 hJ11 => ?_)
    refine Fo.call (fr_X10_add (Int32.toInt64 y9) I10 J11) (by decide) (by decide) hI10 hJ11 (fun _ I12 J13 hI12 hJ13 => ?_)
    exact Fo.some hI12 hJ13
theorem fr_J7_fill_53178_35_L5 (I0 : HI) (J0 : HJ) (l1 : Int32) (l3 : Int32) (J : HJ) (hJ : Sm wj_J7_fill_53178_35 J0 J) : ∀ (K : Nat) (l2 : Int32) (I : HI) (hI : Sm wi_J7_fill_53178_35 I0 I), Fo wi_J7_fill_53178_35 wj_J7_fill_53178_35 I0 J0 (F_J7_fill_53178_35_L5 l1 l3 J K l2 I) := by
  intro K
  induction K with
  | zero => intro l2 I hI; exact Fo.none
  | succ K ih =>
    intro l2 I hI
    rw [F_J7_fill_53178_35_L5]
    refine Fo.ite ?_ ?_
    · exact Fo.some hI hJ
    · refine Fo.gbx ?_
      refine Fo.lui rfl hI (fun I2 hI2 => ?_)
      exact ih _ _ hI2
theorem fr_J7_fill_53178_35 (l1 : Int32) (I : HI) (J : HJ) : Fo wi_J7_fill_53178_35 wj_J7_fill_53178_35 I J (F_J7_fill_53178_35 l1 I J) := by
  suffices key : ∀ (I0 : HI) (J0 : HJ), Sm wi_J7_fill_53178_35 I0 I → Sm wj_J7_fill_53178_35 J0 J → Fo wi_J7_fill_53178_35 wj_J7_fill_53178_35 I0 J0 (F_J7_fill_53178_35 l1 I J) from key I J Sm.rf Sm.rf
  intro I0 J0 hI hJ
  unfold F_J7_fill_53178_35
  refine fr_J7_fill_53178_35_L5 _ _ _ _ _ hJ bgf _ _ hI
theorem fr_X8_enter_L17 (I0 : HI) (J0 : HJ) (l1 : Int32) (l2 : Int32) (I : HI) (J : HJ) (kx55 : Int32 → Option (Int32 × HI × HJ)) (hI : Sm wi_X8_enter I0 I) (hJ : Sm wj_X8_enter J0 J) (hkx55 : ∀ (y4 : Int32), Fo wi_X8_enter wj_X8_enter I0 J0 (kx55 y4)) : ∀ (K : Nat) (l3 : Int32), Fo wi_X8_enter wj_X8_enter I0 J0 (F_X8_enter_L17 l1 l2 I J kx55 K l3) := by
  intro K
  induction K with
  | zero => intro l3; exact Fo.none
  | succ K ih =>
    intro l3
    rw [F_X8_enter_L17]
    refine Fo.ite ?_ ?_
    · exact Fo.some hI hJ
    · refine Fo.lbv (fun x6 => ?_)
      refine Fo.gbx ?_
      refine Fo.lbv (fun x7 => ?_)
      refine Fo.ite ?_ ?_
      · refine Fo.gbx ?_
        refine Fo.gbx ?_
        refine Fo.ite ?_ ?_
        · exact Fo.some hI hJ
        · exact ih _
      · exact hkx55 _
theorem fr_X8_enter (l1 : Int32) (I : HI) (J : HJ) : Fo wi_X8_enter wj_X8_enter I J (F_X8_enter l1 I J) := by
  suffices key : ∀ (I0 : HI) (J0 : HJ), Sm wi_X8_enter I0 I → Sm wj_X8_enter J0 J → Fo wi_X8_enter wj_X8_enter I0 J0 (F_X8_enter l1 I J) from key I J Sm.rf Sm.rf
  intro I0 J0 hI hJ
  unfold F_X8_enter
  refine Fo.gbx ?_
  refine Fo.lbv (fun x5 => ?_)
  refine fr_X8_enter_L17 _ _ _ _ _ _ _ hI hJ (fun y8 => ?_) bgf _
  refine Fo.gbx ?_
  refine Fo.lui rfl hI (fun I9 hI9 => ?_)
  exact Fo.some hI9 hJ
theorem fr_X8_newSets_L4 (I0 : HI) (J0 : HJ) (l1 : Int32) : ∀ (K : Nat) (l2 : Int32) (l3 : Int32) (I : HI) (J : HJ) (hI : Sm wi_X8_newSets I0 I) (hJ : Sm wj_X8_newSets J0 J), Fo wi_X8_newSets wj_X8_newSets I0 J0 (F_X8_newSets_L4 l1 K l2 l3 I J) := by
  intro K
  induction K with
  | zero => intro l2 l3 I J hI hJ; exact Fo.none
  | succ K ih =>
    intro l2 l3 I J hI hJ
    rw [F_X8_newSets_L4]
    refine Fo.ite ?_ ?_
    · exact Fo.some hI hJ
    · refine Fo.gbx ?_
      refine Fo.jn (fun j => ∀ (y1 : Int32) (I2 : HI) (J3 : HJ), Sm wi_X8_newSets I0 I2 → Sm wj_X8_newSets J0 J3 → Fo wi_X8_newSets wj_X8_newSets I0 J0 (j y1 I2 J3)) (fun y1 I2 J3 hI2 hJ3 => ?_) (fun j4 hj4 => ?_)
      · exact ih _ _ _ _ hI2 hJ3
      · refine Fo.ite ?_ ?_
        · refine Fo.call (fr_X8_enter l3 I J) (by decide) (by decide) hI hJ (fun r5 I6 J7 hI6 hJ7 => ?_)
          refine Fo.ite ?_ ?_
          · exact hj4 _ _ _ hI6 hJ7
          · exact hj4 _ _ _ hI6 hJ7
        · exact hj4 _ _ _ hI hJ
theorem fr_X8_newSets (l1 : Int32) (I : HI) (J : HJ) : Fo wi_X8_newSets wj_X8_newSets I J (F_X8_newSets l1 I J) := by
  suffices key : ∀ (I0 : HI) (J0 : HJ), Sm wi_X8_newSets I0 I → Sm wj_X8_newSets J0 J → Fo wi_X8_newSets wj_X8_newSets I0 J0 (F_X8_newSets l1 I J) from key I J Sm.rf Sm.rf
  intro I0 J0 hI hJ
  unfold F_X8_newSets
  refine fr_X8_newSets_L4 _ _ _ bgf _ _ _ _ hI hJ
theorem fr_X11_sets  (I : HI) (J : HJ) : Fo wi_X11_sets wj_X11_sets I J (F_X11_sets  I J) := by
  suffices key : ∀ (I0 : HI) (J0 : HJ), Sm wi_X11_sets I0 I → Sm wj_X11_sets J0 J → Fo wi_X11_sets wj_X11_sets I0 J0 (F_X11_sets  I J) from key I J Sm.rf Sm.rf
  intro I0 J0 hI hJ
  unfold F_X11_sets
  refine Fo.call (fr_X11_openTable I J) (by decide) (by decide) hI hJ (fun r1 I2 J3 hI2 hJ3 => ?_)
  refine Fo.ite ?_ ?_
  · exact Fo.some hI2 hJ3
  · refine Fo.call (fr_J7_fill_53178_35 (0 : Int32) I2 J3) (by decide) (by decide) hI2 hJ3 (fun _ I4 J5 hI4 hJ5 => ?_)
    refine Fo.call (fr_X8_newSets (1 : Int32) I4 J5) (by decide) (by decide) hI4 hJ5 (fun r6 I7 J8 hI7 hJ8 => ?_)
    refine Fo.call (fr_X8_newSets (0 : Int32) I7 J8) (by decide) (by decide) hI7 hJ8 (fun r9 I10 J11 hI10 hJ11 => ?_)
    refine Fo.call (fr_X10_clear I10 J11) (by decide) (by decide) hI10 hJ11 (fun _ I12 J13 hI12 hJ13 => ?_)
    refine Fo.call (fr_X10_add (Int32.toInt64 r6) I12 J13) (by decide) (by decide) hI12 hJ13 (fun _ I14 J15 hI14 hJ15 => ?_)
    exact Fo.some hI14 hJ15
theorem fr_X11_fits_L35 (I0 : HI) (J0 : HJ) (l3 : Int64) (I : HI) (J : HJ) (hI : Sm wi_X11_fits I0 I) (hJ : Sm wj_X11_fits J0 J) : ∀ (K : Nat) (l5 : Int32), Fo wi_X11_fits wj_X11_fits I0 J0 (F_X11_fits_L35 l3 I J K l5) := by
  intro K
  induction K with
  | zero => intro l5; exact Fo.none
  | succ K ih =>
    intro l5
    rw [F_X11_fits_L35]
    refine Fo.ite ?_ ?_
    · exact Fo.some hI hJ
    · refine Fo.gbx ?_
      refine Fo.jn (fun j => Fo wi_X11_fits wj_X11_fits I0 J0 (j)) ?_ (fun j7 hj7 => ?_)
      · exact ih _
      · refine Fo.ite ?_ ?_
        · exact hj7
        · refine Fo.gbx ?_
          refine Fo.ite ?_ ?_
          · exact Fo.some hI hJ
          · exact hj7
theorem fr_X11_fits (l1 : Int32) (l2 : Int32) (I : HI) (J : HJ) : Fo wi_X11_fits wj_X11_fits I J (F_X11_fits l1 l2 I J) := by
  suffices key : ∀ (I0 : HI) (J0 : HJ), Sm wi_X11_fits I0 I → Sm wj_X11_fits J0 J → Fo wi_X11_fits wj_X11_fits I0 J0 (F_X11_fits l1 l2 I J) from key I J Sm.rf Sm.rf
  intro I0 J0 hI hJ
  unfold F_X11_fits
  refine Fo.callp (fun r2 => ?_)
  refine Fo.ite ?_ ?_
  · exact Fo.some hI hJ
  · refine Fo.call (fr_X11_openTable I J) (by decide) (by decide) hI hJ (fun r3 I4 J5 hI4 hJ5 => ?_)
    refine Fo.ite ?_ ?_
    · exact Fo.some hI4 hJ5
    · refine Fo.lbv (fun x6 => ?_)
      refine fr_X11_fits_L35 _ _ _ _ _ hI4 hJ5 bgf _
theorem fr_X11_alone_L15 (I0 : HI) (J0 : HJ) (I : HI) (J : HJ) (hI : Sm wi_X11_alone I0 I) (hJ : Sm wj_X11_alone J0 J) : ∀ (K : Nat) (l1 : Int64) (l3 : Int32), Fo wi_X11_alone wj_X11_alone I0 J0 (F_X11_alone_L15 I J K l1 l3) := by
  intro K
  induction K with
  | zero => intro l1 l3; exact Fo.none
  | succ K ih =>
    intro l1 l3
    rw [F_X11_alone_L15]
    refine Fo.ite ?_ ?_
    · exact Fo.some hI hJ
    · refine Fo.gbx ?_
      refine Fo.lbv (fun x6 => ?_)
      refine Fo.jn (fun j => ∀ (y7 : Int64), Fo wi_X11_alone wj_X11_alone I0 J0 (j y7)) (fun y7 => ?_) (fun j8 hj8 => ?_)
      · exact ih _ _
      · refine Fo.ite ?_ ?_
        · refine Fo.lbv (fun x9 => ?_)
          exact hj8 _
        · exact hj8 _
theorem fr_X11_alone  (I : HI) (J : HJ) : Fo wi_X11_alone wj_X11_alone I J (F_X11_alone  I J) := by
  suffices key : ∀ (I0 : HI) (J0 : HJ), Sm wi_X11_alone I0 I → Sm wj_X11_alone J0 J → Fo wi_X11_alone wj_X11_alone I0 J0 (F_X11_alone  I J) from key I J Sm.rf Sm.rf
  intro I0 J0 hI hJ
  unfold F_X11_alone
  refine Fo.call (fr_X11_openTable I J) (by decide) (by decide) hI hJ (fun r3 I4 J5 hI4 hJ5 => ?_)
  refine Fo.ite ?_ ?_
  · exact Fo.some hI4 hJ5
  · refine fr_X11_alone_L15 _ _ _ _ hI4 hJ5 bgf _ _
theorem fr_X11_twins_L21 (I0 : HI) (J0 : HJ)  : ∀ (K : Nat) (l1 : Int32) (l2 : Int32) (I : HI) (J : HJ) (hI : Sm wi_X11_twins I0 I) (hJ : Sm wj_X11_twins J0 J), Fo wi_X11_twins wj_X11_twins I0 J0 (F_X11_twins_L21 K l1 l2 I J) := by
  intro K
  induction K with
  | zero => intro l1 l2 I J hI hJ; exact Fo.none
  | succ K ih =>
    intro l1 l2 I J hI hJ
    rw [F_X11_twins_L21]
    refine Fo.ite ?_ ?_
    · exact Fo.some hI hJ
    · refine Fo.callp (fun r7 => ?_)
      refine Fo.jn (fun j => ∀ (I8 : HI) (J9 : HJ), Sm wi_X11_twins I0 I8 → Sm wj_X11_twins J0 J9 → Fo wi_X11_twins wj_X11_twins I0 J0 (j I8 J9)) (fun I8 J9 hI8 hJ9 => ?_) (fun j10 hj10 => ?_)
      · refine Fo.callp (fun r11 => ?_)
        refine Fo.lbv (fun x12 => ?_)
        exact ih _ _ _ _ hI8 hJ9
      · refine Fo.ite ?_ ?_
        · refine Fo.ite ?_ ?_
          · exact hj10 _ _ hI hJ
          · refine Fo.call (fr_X10_add (Int32.toInt64 l2) I J) (by decide) (by decide) hI hJ (fun _ I13 J14 hI13 hJ14 => ?_)
            refine Fo.callp (fun r15 => ?_)
            refine Fo.call (fr_X10_add (Int32.toInt64 r15) I13 J14) (by decide) (by decide) hI13 hJ14 (fun _ I16 J17 hI16 hJ17 => ?_)
            exact hj10 _ _ hI16 hJ17
        · exact hj10 _ _ hI hJ
theorem fr_X11_twins  (I : HI) (J : HJ) : Fo wi_X11_twins wj_X11_twins I J (F_X11_twins  I J) := by
  suffices key : ∀ (I0 : HI) (J0 : HJ), Sm wi_X11_twins I0 I → Sm wj_X11_twins J0 J → Fo wi_X11_twins wj_X11_twins I0 J0 (F_X11_twins  I J) from key I J Sm.rf Sm.rf
  intro I0 J0 hI hJ
  unfold F_X11_twins
  refine Fo.call (fr_X11_openTable I J) (by decide) (by decide) hI hJ (fun r2 I3 J4 hI3 hJ4 => ?_)
  refine Fo.ite ?_ ?_
  · exact Fo.some hI3 hJ4
  · refine Fo.call (fr_X10_clear I3 J4) (by decide) (by decide) hI3 hJ4 (fun _ I5 J6 hI5 hJ6 => ?_)
    refine fr_X11_twins_L21 _ _ bgf _ _ _ _ hI5 hJ6
theorem fr_X11_range_L39 (I0 : HI) (J0 : HJ) (l1 : Int32) (l2 : Int32) (l3 : Int64) (l5 : Int32) (kx84 : Int32 → HI → HJ → Option (Int32 × HI × HJ)) (hkx84 : ∀ (y6 : Int32) (I1 : HI) (J1 : HJ), Sm wi_X11_range I0 I1 → Sm wj_X11_range J0 J1 → Fo wi_X11_range wj_X11_range I0 J0 (kx84 y6 I1 J1)) : ∀ (K : Nat) (l6 : Int32) (l7 : Int32) (I : HI) (J : HJ) (hI : Sm wi_X11_range I0 I) (hJ : Sm wj_X11_range J0 J), Fo wi_X11_range wj_X11_range I0 J0 (F_X11_range_L39 l1 l2 l3 l5 kx84 K l6 l7 I J) := by
  intro K
  induction K with
  | zero => intro l6 l7 I J hI hJ; exact Fo.none
  | succ K ih =>
    intro l6 l7 I J hI hJ
    rw [F_X11_range_L39]
    refine Fo.ite ?_ ?_
    · exact hkx84 _ _ _ hI hJ
    · refine Fo.lui rfl hI (fun I10 hI10 => ?_)
      refine Fo.call (fr_X1_glowing l1 l2 I10 J) (by decide) (by decide) hI10 hJ (fun r11 I12 J13 hI12 hJ13 => ?_)
      refine Fo.jn (fun j => ∀ (y14 : Int32), Fo wi_X11_range wj_X11_range I0 J0 (j y14)) (fun y14 => ?_) (fun j15 hj15 => ?_)
      · exact ih _ _ _ _ hI12 hJ13
      · refine Fo.ite ?_ ?_
        · refine Fo.lbv (fun x16 => ?_)
          exact hj15 _
        · exact hj15 _
theorem fr_X11_range (l1 : Int32) (l2 : Int32) (I : HI) (J : HJ) : Fo wi_X11_range wj_X11_range I J (F_X11_range l1 l2 I J) := by
  suffices key : ∀ (I0 : HI) (J0 : HJ), Sm wi_X11_range I0 I → Sm wj_X11_range J0 J → Fo wi_X11_range wj_X11_range I0 J0 (F_X11_range l1 l2 I J) from key I J Sm.rf Sm.rf
  intro I0 J0 hI hJ
  unfold F_X11_range
  refine Fo.callp (fun r5 => ?_)
  refine Fo.ite ?_ ?_
  · exact Fo.some hI hJ
  · refine Fo.call (fr_X1_glowing l1 l2 I J) (by decide) (by decide) hI hJ (fun r6 I7 J8 hI7 hJ8 => ?_)
    refine Fo.lbv (fun x9 => ?_)
    refine fr_X11_range_L39 _ _ _ _ _ _ _ (fun y17 I18 J19 hI18 hJ19 => ?_) bgf _ _ _ _ hI7 hJ8
    refine Fo.lui rfl hI18 (fun I20 hI20 => ?_)
    exact Fo.some hI20 hJ19
theorem fr_X11_picture (l1 : Int32) (l2 : Int64) (I : HI) (J : HJ) : Fo wi_X11_picture wj_X11_picture I J (F_X11_picture l1 l2 I J) := by
  suffices key : ∀ (I0 : HI) (J0 : HJ), Sm wi_X11_picture I0 I → Sm wj_X11_picture J0 J → Fo wi_X11_picture wj_X11_picture I0 J0 (F_X11_picture l1 l2 I J) from key I J Sm.rf Sm.rf
  intro I0 J0 hI hJ
  unfold F_X11_picture
  refine Fo.callp (fun r2 => ?_)
  refine Fo.ite ?_ ?_
  · exact Fo.some hI hJ
  · refine Fo.callp (fun r3 => ?_)
    refine Fo.ite ?_ ?_
    · exact Fo.some hI hJ
    · refine Fo.gbx ?_
      refine Fo.luj rfl hJ (fun J4 hJ4 => ?_)
      refine Fo.callp (fun r5 => ?_)
      exact Fo.some hI hJ4
theorem fr_X4_open_L7 (I0 : HI) (J0 : HJ) (l1 : Int64) (J : HJ) (kx58 : HI → Option (Unit × HI × HJ)) (hJ : Sm wj_X4_open J0 J) (hkx58 : ∀ (I1 : HI), Sm wi_X4_open I0 I1 → Fo wi_X4_open wj_X4_open I0 J0 (kx58 I1)) : ∀ (K : Nat) (l3 : Int32) (I : HI) (hI : Sm wi_X4_open I0 I), Fo wi_X4_open wj_X4_open I0 J0 (F_X4_open_L7 l1 J kx58 K l3 I) := by
  intro K
  induction K with
  | zero => intro l3 I hI; exact Fo.none
  | succ K ih =>
    intro l3 I hI
    rw [F_X4_open_L7]
    refine Fo.ite ?_ ?_
    · exact hkx58 _ hI
    · refine Fo.ite ?_ ?_
      · exact hkx58 _ hI
      · refine Fo.jn (fun j => ∀ (I6 : HI), Sm wi_X4_open I0 I6 → Fo wi_X4_open wj_X4_open I0 J0 (j I6)) (fun I6 hI6 => ?_) (fun j7 hj7 => ?_)
        · exact ih _ _ hI6
        · refine Fo.ite ?_ ?_
          · exact hj7 _ hI
          · refine Fo.gbx ?_
            refine Fo.lui rfl hI (fun I8 hI8 => ?_)
            refine Fo.lui rfl hI8 (fun I9 hI9 => ?_)
            exact hj7 _ hI9
theorem fr_X4_open_L60 (I0 : HI) (J0 : HJ) (l1 : Int64) (J : HJ) (hJ : Sm wj_X4_open J0 J) : ∀ (K : Nat) (l3 : Int32) (I : HI) (hI : Sm wi_X4_open I0 I), Fo wi_X4_open wj_X4_open I0 J0 (F_X4_open_L60 l1 J K l3 I) := by
  intro K
  induction K with
  | zero => intro l3 I hI; exact Fo.none
  | succ K ih =>
    intro l3 I hI
    rw [F_X4_open_L60]
    refine Fo.ite ?_ ?_
    · exact Fo.some hI hJ
    · refine Fo.callp (fun r11 => ?_)
      refine Fo.jn (fun j => ∀ (y12 : Int32) (y13 : Int32), Fo wi_X4_open wj_X4_open I0 J0 (j y12 y13)) (fun y12 y13 => ?_) (fun j14 hj14 => ?_)
      · refine Fo.gbx ?_
        refine Fo.lui rfl hI (fun I15 hI15 => ?_)
        exact ih _ _ hI15
      · refine Fo.ite ?_ ?_
        · exact hj14 _ _
        · refine Fo.gbx ?_
          refine Fo.callp (fun r16 => ?_)
          exact hj14 _ _
theorem fr_X4_open (l1 : Int64) (I : HI) (J : HJ) : Fo wi_X4_open wj_X4_open I J (F_X4_open l1 I J) := by
  suffices key : ∀ (I0 : HI) (J0 : HJ), Sm wi_X4_open I0 I → Sm wj_X4_open J0 J → Fo wi_X4_open wj_X4_open I0 J0 (F_X4_open l1 I J) from key I J Sm.rf Sm.rf
  intro I0 J0 hI hJ
  unfold F_X4_open
  refine Fo.lui rfl hI (fun I5 hI5 => ?_)
  refine fr_X4_open_L7 _ _ _ _ _ hJ (fun I10 hI10 => ?_) bgf _ _ hI5
  refine fr_X4_open_L60 _ _ _ _ hJ bgf _ _ hI10
theorem fr_X11_openParting (l1 : Int32) (I : HI) (J : HJ) : Fo wi_X11_openParting wj_X11_openParting I J (F_X11_openParting l1 I J) := by
  suffices key : ∀ (I0 : HI) (J0 : HJ), Sm wi_X11_openParting I0 I → Sm wj_X11_openParting J0 J → Fo wi_X11_openParting wj_X11_openParting I0 J0 (F_X11_openParting l1 I J) from key I J Sm.rf Sm.rf
  intro I0 J0 hI hJ
  unfold F_X11_openParting
  refine Fo.callp (fun r1 => ?_)
  refine Fo.ite ?_ ?_
  · exact Fo.some hI hJ
  · refine Fo.callp (fun r2 => ?_)
    refine Fo.ite ?_ ?_
    · exact Fo.some hI hJ
    · refine Fo.gbx ?_
      refine Fo.callp (fun r3 => ?_)
      refine Fo.ite ?_ ?_
      · refine Fo.call (fr_X8_refresh I J) (by decide) (by decide) hI hJ (fun _ I4 J5 hI4 hJ5 => ?_)
        refine Fo.gbx ?_
        refine Fo.call (fr_X4_open (J5 x_notes_pictures (Int32.toNatClampNeg l1)) I4 J5) (by decide) (by decide) hI4 hJ5 (fun _ I6 J7 hI6 hJ7 => ?_)
        exact Fo.some hI6 hJ7
      · exact Fo.some hI hJ
theorem fr_X4_addWidest_L2 (I0 : HI) (J0 : HJ) (l1 : Int32) (I : HI) (J : HJ) (kx30 : Option (Unit × HI × HJ)) (hI : Sm wi_X4_addWidest I0 I) (hJ : Sm wj_X4_addWidest J0 J) (hkx30 : Fo wi_X4_addWidest wj_X4_addWidest I0 J0 (kx30)) : ∀ (K : Nat) (l2 : Int32), Fo wi_X4_addWidest wj_X4_addWidest I0 J0 (F_X4_addWidest_L2 l1 I J kx30 K l2) := by
  intro K
  induction K with
  | zero => intro l2; exact Fo.none
  | succ K ih =>
    intro l2
    rw [F_X4_addWidest_L2]
    refine Fo.ite ?_ ?_
    · exact hkx30
    · refine Fo.gbx ?_
      refine Fo.ite ?_ ?_
      · exact Fo.some hI hJ
      · exact ih _
theorem fr_X4_addWidest_L34 (I0 : HI) (J0 : HJ) (l1 : Int32) (J : HJ) (kx76 : Int32 → HI → Option (Unit × HI × HJ)) (hJ : Sm wj_X4_addWidest J0 J) (hkx76 : ∀ (y2 : Int32) (I1 : HI), Sm wi_X4_addWidest I0 I1 → Fo wi_X4_addWidest wj_X4_addWidest I0 J0 (kx76 y2 I1)) : ∀ (K : Nat) (l2 : Int32) (l3 : Int32) (I : HI) (hI : Sm wi_X4_addWidest I0 I), Fo wi_X4_addWidest wj_X4_addWidest I0 J0 (F_X4_addWidest_L34 l1 J kx76 K l2 l3 I) := by
  intro K
  induction K with
  | zero => intro l2 l3 I hI; exact Fo.none
  | succ K ih =>
    intro l2 l3 I hI
    rw [F_X4_addWidest_L34]
    refine Fo.ite ?_ ?_
    · exact hkx76 _ _ hI
    · refine Fo.gbx ?_
      refine Fo.jn (fun j => ∀ (y4 : Int32) (I5 : HI), Sm wi_X4_addWidest I0 I5 → Fo wi_X4_addWidest wj_X4_addWidest I0 J0 (j y4 I5)) (fun y4 I5 hI5 => ?_) (fun j6 hj6 => ?_)
      · exact ih _ _ _ hI5
      · refine Fo.ite ?_ ?_
        · exact hj6 _ _ hI
        · refine Fo.gbx ?_
          refine Fo.gbx ?_
          refine Fo.lui rfl hI (fun I7 hI7 => ?_)
          exact hj6 _ _ hI7
theorem fr_X4_addWidest (l1 : Int32) (I : HI) (J : HJ) : Fo wi_X4_addWidest wj_X4_addWidest I J (F_X4_addWidest l1 I J) := by
  suffices key : ∀ (I0 : HI) (J0 : HJ), Sm wi_X4_addWidest I0 I → Sm wj_X4_addWidest J0 J → Fo wi_X4_addWidest wj_X4_addWidest I0 J0 (F_X4_addWidest l1 I J) from key I J Sm.rf Sm.rf
  intro I0 J0 hI hJ
  unfold F_X4_addWidest
  refine fr_X4_addWidest_L2 _ _ _ _ _ _ hI hJ ?_ bgf _
  refine fr_X4_addWidest_L34 _ _ _ _ _ hJ (fun y8 I9 hI9 => ?_) bgf _ _ _ hI
  refine Fo.jn (fun j => ∀ (y10 : Int32) (I11 : HI), Sm wi_X4_addWidest I0 I11 → Fo wi_X4_addWidest wj_X4_addWidest I0 J0 (j y10 I11)) (fun y10 I11 hI11 => ?_) (fun j12 hj12 => ?_)
  · refine Fo.lui rfl hI11 (fun I13 hI13 => ?_)
    exact Fo.some hI13 hJ
  · refine Fo.ite ?_ ?_
    · exact hj12 _ _ hI9
    · refine Fo.gbx ?_
      refine Fo.lui rfl hI9 (fun I14 hI14 => ?_)
      exact hj12 _ _ hI14
theorem fr_X4_findWidest_L7 (I0 : HI) (J0 : HJ)  : ∀ (K : Nat) (l1 : Int32) (I : HI) (J : HJ) (hI : Sm wi_X4_findWidest I0 I) (hJ : Sm wj_X4_findWidest J0 J), Fo wi_X4_findWidest wj_X4_findWidest I0 J0 (F_X4_findWidest_L7 K l1 I J) := by
  intro K
  induction K with
  | zero => intro l1 I J hI hJ; exact Fo.none
  | succ K ih =>
    intro l1 I J hI hJ
    rw [F_X4_findWidest_L7]
    refine Fo.ite ?_ ?_
    · exact Fo.some hI hJ
    · refine Fo.gbx ?_
      refine Fo.jn (fun j => ∀ (I3 : HI) (J4 : HJ), Sm wi_X4_findWidest I0 I3 → Sm wj_X4_findWidest J0 J4 → Fo wi_X4_findWidest wj_X4_findWidest I0 J0 (j I3 J4)) (fun I3 J4 hI3 hJ4 => ?_) (fun j5 hj5 => ?_)
      · exact ih _ _ _ hI3 hJ4
      · refine Fo.ite ?_ ?_
        · exact hj5 _ _ hI hJ
        · refine Fo.gbx ?_
          refine Fo.call (fr_X4_addWidest (I x_parting_cover (Int32.toNatClampNeg l1)) I J) (by decide) (by decide) hI hJ (fun _ I6 J7 hI6 hJ7 => ?_)
          exact hj5 _ _ hI6 hJ7
theorem fr_X4_findWidest  (I : HI) (J : HJ) : Fo wi_X4_findWidest wj_X4_findWidest I J (F_X4_findWidest  I J) := by
  suffices key : ∀ (I0 : HI) (J0 : HJ), Sm wi_X4_findWidest I0 I → Sm wj_X4_findWidest J0 J → Fo wi_X4_findWidest wj_X4_findWidest I0 J0 (F_X4_findWidest  I J) from key I J Sm.rf Sm.rf
  intro I0 J0 hI hJ
  unfold F_X4_findWidest
  refine Fo.lui rfl hI (fun I2 hI2 => ?_)
  refine fr_X4_findWidest_L7 _ _ bgf _ _ _ hI2 hJ
theorem fr_J7_fill_fda19_40_L10 (I0 : HI) (J0 : HJ) (l2 : Int32) (l3 : Int32) (J : HJ) (hJ : Sm wj_J7_fill_fda19_40 J0 J) : ∀ (K : Nat) (l4 : Int32) (I : HI) (hI : Sm wi_J7_fill_fda19_40 I0 I), Fo wi_J7_fill_fda19_40 wj_J7_fill_fda19_40 I0 J0 (F_J7_fill_fda19_40_L10 l2 l3 J K l4 I) := by
  intro K
  induction K with
  | zero => intro l4 I hI; exact Fo.none
  | succ K ih =>
    intro l4 I hI
    rw [F_J7_fill_fda19_40_L10]
    refine Fo.ite ?_ ?_
    · exact Fo.some hI hJ
    · refine Fo.gbx ?_
      refine Fo.lui rfl hI (fun I2 hI2 => ?_)
      exact ih _ _ hI2
theorem fr_J7_fill_fda19_40 (l1 : Int32) (l2 : Int32) (l3 : Int32) (I : HI) (J : HJ) : Fo wi_J7_fill_fda19_40 wj_J7_fill_fda19_40 I J (F_J7_fill_fda19_40 l1 l2 l3 I J) := by
  suffices key : ∀ (I0 : HI) (J0 : HJ), Sm wi_J7_fill_fda19_40 I0 I → Sm wj_J7_fill_fda19_40 J0 J → Fo wi_J7_fill_fda19_40 wj_J7_fill_fda19_40 I0 J0 (F_J7_fill_fda19_40 l1 l2 l3 I J) from key I J Sm.rf Sm.rf
  intro I0 J0 hI hJ
  unfold F_J7_fill_fda19_40
  refine Fo.callp (fun _ => ?_)
  refine fr_J7_fill_fda19_40_L10 _ _ _ _ _ hJ bgf _ _ hI
theorem fr_X4_fewestFor_L41 (rc : Int32 → Int32 → HI → HJ → Option (Int32 × HI × HJ)) (hrc : ∀ (a0 : Int32) (a1 : Int32) (I : HI) (J : HJ), Fo wi_X4_fewestFor wj_X4_fewestFor I J (rc a0 a1 I J)) (I0 : HI) (J0 : HJ) (l1 : Int32) (l2 : Int32) (l3 : Int32) (kx95 : Int32 → HI → HJ → Option (Int32 × HI × HJ)) (hkx95 : ∀ (y4 : Int32) (I1 : HI) (J1 : HJ), Sm wi_X4_fewestFor I0 I1 → Sm wj_X4_fewestFor J0 J1 → Fo wi_X4_fewestFor wj_X4_fewestFor I0 J0 (kx95 y4 I1 J1)) : ∀ (K : Nat) (l4 : Int32) (l5 : Int32) (I : HI) (J : HJ) (hI : Sm wi_X4_fewestFor I0 I) (hJ : Sm wj_X4_fewestFor J0 J), Fo wi_X4_fewestFor wj_X4_fewestFor I0 J0 (F_X4_fewestFor_L41 rc l1 l2 l3 kx95 K l4 l5 I J) := by
  intro K
  induction K with
  | zero => intro l4 l5 I J hI hJ; exact Fo.none
  | succ K ih =>
    intro l4 l5 I J hI hJ
    rw [F_X4_fewestFor_L41]
    refine Fo.ite ?_ ?_
    · exact hkx95 _ _ _ hI hJ
    · refine Fo.gbx ?_
      refine Fo.jn (fun j => ∀ (y6 : Int32) (I7 : HI) (J8 : HJ), Sm wi_X4_fewestFor I0 I7 → Sm wj_X4_fewestFor J0 J8 → Fo wi_X4_fewestFor wj_X4_fewestFor I0 J0 (j y6 I7 J8)) (fun y6 I7 J8 hI7 hJ8 => ?_) (fun j9 hj9 => ?_)
      · exact ih _ _ _ _ hI7 hJ8
      · refine Fo.ite ?_ ?_
        · exact hj9 _ _ _ hI hJ
        · refine Fo.gbx ?_
          refine Fo.call (hrc (l1 &&& ((I x_parting_widest (Int32.toNatClampNeg l5)) ^^^ (-1 : Int32))) (l2 + (1 : Int32)) I J) (by decide) (by decide) hI hJ (fun r10 I11 J12 hI11 hJ12 => ?_)
          refine Fo.lbv (fun x13 => ?_)
          exact hj9 _ _ _ hI11 hJ12
theorem fr_X4_fewestFor_B (rc : Int32 → Int32 → HI → HJ → Option (Int32 × HI × HJ)) (hrc : ∀ (a0 : Int32) (a1 : Int32) (I : HI) (J : HJ), Fo wi_X4_fewestFor wj_X4_fewestFor I J (rc a0 a1 I J)) (l1 : Int32) (l2 : Int32) (I : HI) (J : HJ) : Fo wi_X4_fewestFor wj_X4_fewestFor I J (F_X4_fewestFor_B rc l1 l2 I J) := by
  suffices key : ∀ (I0 : HI) (J0 : HJ), Sm wi_X4_fewestFor I0 I → Sm wj_X4_fewestFor J0 J → Fo wi_X4_fewestFor wj_X4_fewestFor I0 J0 (F_X4_fewestFor_B rc l1 l2 I J) from key I J Sm.rf Sm.rf
  intro I0 J0 hI hJ
  unfold F_X4_fewestFor_B
  refine Fo.ite ?_ ?_
  · exact Fo.some hI hJ
  · refine Fo.gbx ?_
    refine Fo.jn (fun j => Fo wi_X4_fewestFor wj_X4_fewestFor I0 J0 (j)) ?_ (fun j4 hj4 => ?_)
    · refine Fo.gbx ?_
      exact Fo.some hI hJ
    · refine Fo.ite ?_ ?_
      · refine Fo.ite ?_ ?_
        · refine Fo.lbv (fun x5 => ?_)
          refine fr_X4_fewestFor_L41 rc hrc _ _ _ _ _ _ (fun y14 I15 J16 hI15 hJ16 => ?_) bgf _ _ _ _ hI hJ
          refine Fo.gbx ?_
          refine Fo.lui rfl hI15 (fun I17 hI17 => ?_)
          exact Fo.some hI17 hJ16
        · exact hj4
      · exact hj4
theorem fr_X4_fewestFor : ∀ (n : Nat) (l1 : Int32) (l2 : Int32) (I : HI) (J : HJ), Fo wi_X4_fewestFor wj_X4_fewestFor I J (F_X4_fewestFor n l1 l2 I J) := by
  intro n
  induction n with
  | zero => intro l1 l2 I J; exact Fo.none
  | succ n ih => intro l1 l2 I J; exact fr_X4_fewestFor_B (F_X4_fewestFor n) ih l1 l2 I J
theorem fr_X4_choose_L7 (I0 : HI) (J0 : HJ)  : ∀ (K : Nat) (l2 : Int32) (l3 : Int32) (l4 : Int32) (I : HI) (J : HJ) (hI : Sm wi_X4_choose I0 I) (hJ : Sm wj_X4_choose J0 J), Fo wi_X4_choose wj_X4_choose I0 J0 (F_X4_choose_L7 K l2 l3 l4 I J) := by
  intro K
  induction K with
  | zero => intro l2 l3 l4 I J hI hJ; exact Fo.none
  | succ K ih =>
    intro l2 l3 l4 I J hI hJ
    rw [F_X4_choose_L7]
    refine Fo.ite ?_ ?_
    · exact Fo.some hI hJ
    · refine Fo.ite ?_ ?_
      · exact Fo.some hI hJ
      · refine Fo.gbx ?_
        refine Fo.lbv (fun x3 => ?_)
        refine Fo.jn (fun j => ∀ (y4 : Int32) (y5 : Int32) (I6 : HI) (J7 : HJ), Sm wi_X4_choose I0 I6 → Sm wj_X4_choose J0 J7 → Fo wi_X4_choose wj_X4_choose I0 J0 (j y4 y5 I6 J7)) (fun y4 y5 I6 J7 hI6 hJ7 => ?_) (fun j8 hj8 => ?_)
        · exact ih _ _ _ _ _ hI6 hJ7
        · refine Fo.ite ?_ ?_
          · exact hj8 _ _ _ _ hI hJ
          · refine Fo.call (fr_X4_fewestFor 20 x3 (0 : Int32) I J) (by decide) (by decide) hI hJ (fun r9 I10 J11 hI10 hJ11 => ?_)
            refine Fo.ite ?_ ?_
            · refine Fo.gbx ?_
              refine Fo.lui rfl hI10 (fun I12 hI12 => ?_)
              exact hj8 _ _ _ _ hI12 hJ11
            · exact hj8 _ _ _ _ hI10 hJ11
theorem fr_X4_choose (l1 : Int32) (I : HI) (J : HJ) : Fo wi_X4_choose wj_X4_choose I J (F_X4_choose l1 I J) := by
  suffices key : ∀ (I0 : HI) (J0 : HJ), Sm wi_X4_choose I0 I → Sm wj_X4_choose J0 J → Fo wi_X4_choose wj_X4_choose I0 J0 (F_X4_choose l1 I J) from key I J Sm.rf Sm.rf
  intro I0 J0 hI hJ
  unfold F_X4_choose
  refine fr_X4_choose_L7 _ _ bgf _ _ _ _ _ hI hJ
theorem fr_X4_part  (I : HI) (J : HJ) : Fo wi_X4_part wj_X4_part I J (F_X4_part  I J) := by
  suffices key : ∀ (I0 : HI) (J0 : HJ), Sm wi_X4_part I0 I → Sm wj_X4_part J0 J → Fo wi_X4_part wj_X4_part I0 J0 (F_X4_part  I J) from key I J Sm.rf Sm.rf
  intro I0 J0 hI hJ
  unfold F_X4_part
  refine Fo.call (fr_X4_findWidest I J) (by decide) (by decide) hI hJ (fun _ I4 J5 hI4 hJ5 => ?_)
  refine Fo.lbv (fun x6 => ?_)
  refine Fo.call (fr_J7_fill_fda19_40 (0 : Int32) (x6 + (1 : Int32)) (-1 : Int32) I4 J5) (by decide) (by decide) hI4 hJ5 (fun _ I7 J8 hI7 hJ8 => ?_)
  refine Fo.call (fr_X4_fewestFor 20 x6 (0 : Int32) I7 J8) (by decide) (by decide) hI7 hJ8 (fun r9 I10 J11 hI10 hJ11 => ?_)
  refine Fo.lui rfl hI10 (fun I12 hI12 => ?_)
  refine Fo.ite ?_ ?_
  · refine Fo.call (fr_X4_choose x6 I12 J11) (by decide) (by decide) hI12 hJ11 (fun _ I13 J14 hI13 hJ14 => ?_)
    exact Fo.some hI13 hJ14
  · refine Fo.lui rfl hI12 (fun I15 hI15 => ?_)
    exact Fo.some hI15 hJ11
theorem fr_X11_partInto (l1 : Int32) (I : HI) (J : HJ) : Fo wi_X11_partInto wj_X11_partInto I J (F_X11_partInto l1 I J) := by
  suffices key : ∀ (I0 : HI) (J0 : HJ), Sm wi_X11_partInto I0 I → Sm wj_X11_partInto J0 J → Fo wi_X11_partInto wj_X11_partInto I0 J0 (F_X11_partInto l1 I J) from key I J Sm.rf Sm.rf
  intro I0 J0 hI hJ
  unfold F_X11_partInto
  refine Fo.call (fr_X11_openParting l1 I J) (by decide) (by decide) hI hJ (fun r1 I2 J3 hI2 hJ3 => ?_)
  refine Fo.ite ?_ ?_
  · refine Fo.call (fr_X4_part I2 J3) (by decide) (by decide) hI2 hJ3 (fun r4 I5 J6 hI5 hJ6 => ?_)
    exact Fo.some hI5 hJ6
  · exact Fo.some hI2 hJ3
theorem fr_X11_tellTurns_42_L9 (I0 : HI) (J0 : HJ) (l2 : Int32) : ∀ (K : Nat) (l3 : Int32) (I : HI) (J : HJ) (hI : Sm wi_X11_tellTurns_42 I0 I) (hJ : Sm wj_X11_tellTurns_42 J0 J), Fo wi_X11_tellTurns_42 wj_X11_tellTurns_42 I0 J0 (F_X11_tellTurns_42_L9 l2 K l3 I J) := by
  intro K
  induction K with
  | zero => intro l3 I J hI hJ; exact Fo.none
  | succ K ih =>
    intro l3 I J hI hJ
    rw [F_X11_tellTurns_42_L9]
    refine Fo.ite ?_ ?_
    · exact Fo.some hI hJ
    · refine Fo.ite ?_ ?_
      · exact Fo.some hI hJ
      · refine Fo.gbx ?_
        refine Fo.call (fr_X10_add (Int32.toInt64 (I x_parting_chosen (Int32.toNatClampNeg l3))) I J) (by decide) (by decide) hI hJ (fun _ I3 J4 hI3 hJ4 => ?_)
        exact ih _ _ _ hI3 hJ4
theorem fr_X11_tellTurns_42 (l2 : Int32) (I : HI) (J : HJ) : Fo wi_X11_tellTurns_42 wj_X11_tellTurns_42 I J (F_X11_tellTurns_42 l2 I J) := by
  suffices key : ∀ (I0 : HI) (J0 : HJ), Sm wi_X11_tellTurns_42 I0 I → Sm wj_X11_tellTurns_42 J0 J → Fo wi_X11_tellTurns_42 wj_X11_tellTurns_42 I0 J0 (F_X11_tellTurns_42 l2 I J) from key I J Sm.rf Sm.rf
  intro I0 J0 hI hJ
  unfold F_X11_tellTurns_42
  refine Fo.call (fr_X10_clear I J) (by decide) (by decide) hI hJ (fun _ I1 J2 hI1 hJ2 => ?_)
  refine fr_X11_tellTurns_42_L9 _ _ _ bgf _ _ _ hI1 hJ2
theorem fr_X11_parted (l1 : Int32) (I : HI) (J : HJ) : Fo wi_X11_parted wj_X11_parted I J (F_X11_parted l1 I J) := by
  suffices key : ∀ (I0 : HI) (J0 : HJ), Sm wi_X11_parted I0 I → Sm wj_X11_parted J0 J → Fo wi_X11_parted wj_X11_parted I0 J0 (F_X11_parted l1 I J) from key I J Sm.rf Sm.rf
  intro I0 J0 hI hJ
  unfold F_X11_parted
  refine Fo.call (fr_X11_partInto l1 I J) (by decide) (by decide) hI hJ (fun r1 I2 J3 hI2 hJ3 => ?_)
  refine Fo.ite ?_ ?_
  · exact Fo.some hI2 hJ3
  · refine Fo.call (fr_X11_tellTurns_42 r1 I2 J3) (by decide) (by decide) hI2 hJ3 (fun _ I4 J5 hI4 hJ5 => ?_)
    exact Fo.some hI4 hJ5
theorem fr_J7_fill_53178_41_L5 (I0 : HI) (J0 : HJ) (l1 : Int32) (l3 : Int32) (J : HJ) (hJ : Sm wj_J7_fill_53178_41 J0 J) : ∀ (K : Nat) (l2 : Int32) (I : HI) (hI : Sm wi_J7_fill_53178_41 I0 I), Fo wi_J7_fill_53178_41 wj_J7_fill_53178_41 I0 J0 (F_J7_fill_53178_41_L5 l1 l3 J K l2 I) := by
  intro K
  induction K with
  | zero => intro l2 I hI; exact Fo.none
  | succ K ih =>
    intro l2 I hI
    rw [F_J7_fill_53178_41_L5]
    refine Fo.ite ?_ ?_
    · exact Fo.some hI hJ
    · refine Fo.gbx ?_
      refine Fo.lui rfl hI (fun I2 hI2 => ?_)
      exact ih _ _ hI2
theorem fr_J7_fill_53178_41 (l1 : Int32) (I : HI) (J : HJ) : Fo wi_J7_fill_53178_41 wj_J7_fill_53178_41 I J (F_J7_fill_53178_41 l1 I J) := by
  suffices key : ∀ (I0 : HI) (J0 : HJ), Sm wi_J7_fill_53178_41 I0 I → Sm wj_J7_fill_53178_41 J0 J → Fo wi_J7_fill_53178_41 wj_J7_fill_53178_41 I0 J0 (F_J7_fill_53178_41 l1 I J) from key I J Sm.rf Sm.rf
  intro I0 J0 hI hJ
  unfold F_J7_fill_53178_41
  refine fr_J7_fill_53178_41_L5 _ _ _ _ _ hJ bgf _ _ hI
theorem fr_X4_findNear_L23 (I0 : HI) (J0 : HJ) (l1 : Int32) (J : HJ) (kx78 : HI → Option (Unit × HI × HJ)) (hJ : Sm wj_X4_findNear J0 J) (hkx78 : ∀ (I1 : HI), Sm wi_X4_findNear I0 I1 → Fo wi_X4_findNear wj_X4_findNear I0 J0 (kx78 I1)) : ∀ (K : Nat) (l2 : Int32) (I : HI) (hI : Sm wi_X4_findNear I0 I), Fo wi_X4_findNear wj_X4_findNear I0 J0 (F_X4_findNear_L23 l1 J kx78 K l2 I) := by
  intro K
  induction K with
  | zero => intro l2 I hI; exact Fo.none
  | succ K ih =>
    intro l2 I hI
    rw [F_X4_findNear_L23]
    refine Fo.ite ?_ ?_
    · exact hkx78 _ hI
    · refine Fo.gbx ?_
      refine Fo.ite ?_ ?_
      · exact hkx78 _ hI
      · refine Fo.gbx ?_
        refine Fo.gbx ?_
        refine Fo.jn (fun j => ∀ (y4 : Int32) (y5 : Int32) (y6 : Int32), Fo wi_X4_findNear wj_X4_findNear I0 J0 (j y4 y5 y6)) (fun y4 y5 y6 => ?_) (fun j7 hj7 => ?_)
        · refine Fo.gbx ?_
          refine Fo.lui rfl hI (fun I8 hI8 => ?_)
          exact ih _ _ hI8
        · refine Fo.ite ?_ ?_
          · exact hj7 _ _ _
          · refine Fo.gbx ?_
            exact hj7 _ _ _
theorem fr_X4_findNear_L10 (I0 : HI) (J0 : HJ) (J : HJ) (hJ : Sm wj_X4_findNear J0 J) : ∀ (K : Nat) (l1 : Int32) (I : HI) (hI : Sm wi_X4_findNear I0 I), Fo wi_X4_findNear wj_X4_findNear I0 J0 (F_X4_findNear_L10 J K l1 I) := by
  intro K
  induction K with
  | zero => intro l1 I hI; exact Fo.none
  | succ K ih =>
    intro l1 I hI
    rw [F_X4_findNear_L10]
    refine Fo.ite ?_ ?_
    · exact Fo.some hI hJ
    · refine fr_X4_findNear_L23 _ _ _ _ _ hJ (fun I9 hI9 => ?_) bgf _ _ hI
      exact ih _ _ hI9
theorem fr_X4_findNear  (I : HI) (J : HJ) : Fo wi_X4_findNear wj_X4_findNear I J (F_X4_findNear  I J) := by
  suffices key : ∀ (I0 : HI) (J0 : HJ), Sm wi_X4_findNear I0 I → Sm wj_X4_findNear J0 J → Fo wi_X4_findNear wj_X4_findNear I0 J0 (F_X4_findNear  I J) from key I J Sm.rf Sm.rf
  intro I0 J0 hI hJ
  unfold F_X4_findNear
  refine Fo.call (fr_J7_fill_53178_41 (0 : Int32) I J) (by decide) (by decide) hI hJ (fun _ I2 J3 hI2 hJ3 => ?_)
  refine fr_X4_findNear_L10 _ _ _ hJ3 bgf _ _ hI2
theorem fr_X4_mostApart_L10 (I0 : HI) (J0 : HJ) (I : HI) (J : HJ) (kx49 : Int32 → Option (Int64 × HI × HJ)) (hI : Sm wi_X4_mostApart I0 I) (hJ : Sm wj_X4_mostApart J0 J) (hkx49 : ∀ (y2 : Int32), Fo wi_X4_mostApart wj_X4_mostApart I0 J0 (kx49 y2)) : ∀ (K : Nat) (l1 : Int32) (l2 : Int32) (l3 : Int32), Fo wi_X4_mostApart wj_X4_mostApart I0 J0 (F_X4_mostApart_L10 I J kx49 K l1 l2 l3) := by
  intro K
  induction K with
  | zero => intro l1 l2 l3; exact Fo.none
  | succ K ih =>
    intro l1 l2 l3
    rw [F_X4_mostApart_L10]
    refine Fo.ite ?_ ?_
    · exact hkx49 _
    · refine Fo.callp (fun r4 => ?_)
      refine Fo.jn (fun j => ∀ (y5 : Int32) (y6 : Int32), Fo wi_X4_mostApart wj_X4_mostApart I0 J0 (j y5 y6)) (fun y5 y6 => ?_) (fun j7 hj7 => ?_)
      · exact ih _ _ _
      · refine Fo.ite ?_ ?_
        · exact hj7 _ _
        · refine Fo.callp (fun r8 => ?_)
          refine Fo.ite ?_ ?_
          · exact hj7 _ _
          · refine Fo.callp (fun r9 => ?_)
            exact hj7 _ _
theorem fr_X4_mostApart_L54 (I0 : HI) (J0 : HJ) (l2 : Int32) (I : HI) (J : HJ) (hI : Sm wi_X4_mostApart I0 I) (hJ : Sm wj_X4_mostApart J0 J) : ∀ (K : Nat) (l3 : Int64) (l5 : Int32), Fo wi_X4_mostApart wj_X4_mostApart I0 J0 (F_X4_mostApart_L54 l2 I J K l3 l5) := by
  intro K
  induction K with
  | zero => intro l3 l5; exact Fo.none
  | succ K ih =>
    intro l3 l5
    rw [F_X4_mostApart_L54]
    refine Fo.ite ?_ ?_
    · exact Fo.some hI hJ
    · refine Fo.gbx ?_
      refine Fo.lbv (fun x11 => ?_)
      exact ih _ _
theorem fr_X4_mostApart  (I : HI) (J : HJ) : Fo wi_X4_mostApart wj_X4_mostApart I J (F_X4_mostApart  I J) := by
  suffices key : ∀ (I0 : HI) (J0 : HJ), Sm wi_X4_mostApart I0 I → Sm wj_X4_mostApart J0 J → Fo wi_X4_mostApart wj_X4_mostApart I0 J0 (F_X4_mostApart  I J) from key I J Sm.rf Sm.rf
  intro I0 J0 hI hJ
  unfold F_X4_mostApart
  refine Fo.call (fr_X4_findNear I J) (by decide) (by decide) hI hJ (fun _ I2 J3 hI2 hJ3 => ?_)
  refine fr_X4_mostApart_L10 _ _ _ _ _ hI2 hJ3 (fun y10 => ?_) bgf _ _ _
  refine fr_X4_mostApart_L54 _ _ _ _ _ hI2 hJ3 bgf _ _
theorem fr_X11_proof (l1 : Int32) (I : HI) (J : HJ) : Fo wi_X11_proof wj_X11_proof I J (F_X11_proof l1 I J) := by
  suffices key : ∀ (I0 : HI) (J0 : HJ), Sm wi_X11_proof I0 I → Sm wj_X11_proof J0 J → Fo wi_X11_proof wj_X11_proof I0 J0 (F_X11_proof l1 I J) from key I J Sm.rf Sm.rf
  intro I0 J0 hI hJ
  unfold F_X11_proof
  refine Fo.call (fr_X11_openParting l1 I J) (by decide) (by decide) hI hJ (fun r1 I2 J3 hI2 hJ3 => ?_)
  refine Fo.ite ?_ ?_
  · refine Fo.call (fr_X4_mostApart I2 J3) (by decide) (by decide) hI2 hJ3 (fun r4 I5 J6 hI5 hJ6 => ?_)
    refine Fo.call (fr_X10_clear I5 J6) (by decide) (by decide) hI5 hJ6 (fun _ I7 J8 hI7 hJ8 => ?_)
    refine Fo.call (fr_X10_add r4 I7 J8) (by decide) (by decide) hI7 hJ8 (fun _ I9 J10 hI9 hJ10 => ?_)
    refine Fo.callp (fun r11 => ?_)
    exact Fo.some hI9 hJ10
  · exact Fo.some hI2 hJ3
theorem fr_X11_never_L38 (I0 : HI) (J0 : HJ) (l2 : Int64) (I : HI) (J : HJ) (hI : Sm wi_X11_never I0 I) (hJ : Sm wj_X11_never J0 J) : ∀ (K : Nat) (l4 : Int64) (l6 : Int32), Fo wi_X11_never wj_X11_never I0 J0 (F_X11_never_L38 l2 I J K l4 l6) := by
  intro K
  induction K with
  | zero => intro l4 l6; exact Fo.none
  | succ K ih =>
    intro l4 l6
    rw [F_X11_never_L38]
    refine Fo.ite ?_ ?_
    · exact Fo.some hI hJ
    · refine Fo.callp (fun r8 => ?_)
      refine Fo.jn (fun j => ∀ (y9 : Int64), Fo wi_X11_never wj_X11_never I0 J0 (j y9)) (fun y9 => ?_) (fun j10 hj10 => ?_)
      · exact ih _ _
      · refine Fo.ite ?_ ?_
        · exact hj10 _
        · refine Fo.gbx ?_
          refine Fo.lbv (fun x11 => ?_)
          exact hj10 _
theorem fr_X11_never (l1 : Int32) (I : HI) (J : HJ) : Fo wi_X11_never wj_X11_never I J (F_X11_never l1 I J) := by
  suffices key : ∀ (I0 : HI) (J0 : HJ), Sm wi_X11_never I0 I → Sm wj_X11_never J0 J → Fo wi_X11_never wj_X11_never I0 J0 (F_X11_never l1 I J) from key I J Sm.rf Sm.rf
  intro I0 J0 hI hJ
  unfold F_X11_never
  refine Fo.callp (fun r3 => ?_)
  refine Fo.ite ?_ ?_
  · exact Fo.some hI hJ
  · refine Fo.call (fr_X11_openTable I J) (by decide) (by decide) hI hJ (fun r4 I5 J6 hI5 hJ6 => ?_)
    refine Fo.ite ?_ ?_
    · exact Fo.some hI5 hJ6
    · refine Fo.gbx ?_
      refine Fo.lbv (fun x7 => ?_)
      refine fr_X11_never_L38 _ _ _ _ _ hI5 hJ6 bgf _ _
theorem fr_X4_tryOrder_L51 (rc : Int32 → Int32 → Int32 → Int32 → HI → HJ → Option (Unit × HI × HJ)) (hrc : ∀ (a0 : Int32) (a1 : Int32) (a2 : Int32) (a3 : Int32) (I : HI) (J : HJ), Fo wi_X4_tryOrder wj_X4_tryOrder I J (rc a0 a1 a2 a3 I J)) (I0 : HI) (J0 : HJ) (l1 : Int32) (l2 : Int32) (l3 : Int32) (l4 : Int32) : ∀ (K : Nat) (l5 : Int32) (I : HI) (J : HJ) (hI : Sm wi_X4_tryOrder I0 I) (hJ : Sm wj_X4_tryOrder J0 J), Fo wi_X4_tryOrder wj_X4_tryOrder I0 J0 (F_X4_tryOrder_L51 rc l1 l2 l3 l4 K l5 I J) := by
  intro K
  induction K with
  | zero => intro l5 I J hI hJ; exact Fo.none
  | succ K ih =>
    intro l5 I J hI hJ
    rw [F_X4_tryOrder_L51]
    refine Fo.ite ?_ ?_
    · exact Fo.some hI hJ
    · refine Fo.jn (fun j => ∀ (I4 : HI) (J5 : HJ), Sm wi_X4_tryOrder I0 I4 → Sm wj_X4_tryOrder J0 J5 → Fo wi_X4_tryOrder wj_X4_tryOrder I0 J0 (j I4 J5)) (fun I4 J5 hI4 hJ5 => ?_) (fun j6 hj6 => ?_)
      · exact ih _ _ _ hI4 hJ5
      · refine Fo.ite ?_ ?_
        · refine Fo.gbx ?_
          refine Fo.gbx ?_
          refine Fo.lui rfl hI (fun I7 hI7 => ?_)
          refine Fo.gbx ?_
          refine Fo.callp (fun r8 => ?_)
          refine Fo.gbx ?_
          refine Fo.call (hrc (l1 + (1 : Int32)) (l2 ||| (oshl (1 : Int32) l5)) (I7 x_parting_chosen (Int32.toNatClampNeg l5)) (l4 + r8) I7 J) (by decide) (by decide) hI7 hJ (fun _ I9 J10 hI9 hJ10 => ?_)
          exact hj6 _ _ hI9 hJ10
        · exact hj6 _ _ hI hJ
theorem fr_X4_tryOrder_B (rc : Int32 → Int32 → Int32 → Int32 → HI → HJ → Option (Unit × HI × HJ)) (hrc : ∀ (a0 : Int32) (a1 : Int32) (a2 : Int32) (a3 : Int32) (I : HI) (J : HJ), Fo wi_X4_tryOrder wj_X4_tryOrder I J (rc a0 a1 a2 a3 I J)) (l1 : Int32) (l2 : Int32) (l3 : Int32) (l4 : Int32) (I : HI) (J : HJ) : Fo wi_X4_tryOrder wj_X4_tryOrder I J (F_X4_tryOrder_B rc l1 l2 l3 l4 I J) := by
  suffices key : ∀ (I0 : HI) (J0 : HJ), Sm wi_X4_tryOrder I0 I → Sm wj_X4_tryOrder J0 J → Fo wi_X4_tryOrder wj_X4_tryOrder I0 J0 (F_X4_tryOrder_B rc l1 l2 l3 l4 I J) from key I J Sm.rf Sm.rf
  intro I0 J0 hI hJ
  unfold F_X4_tryOrder_B
  refine Fo.ite ?_ ?_
  · exact Fo.some hI hJ
  · refine Fo.ite ?_ ?_
    · refine Fo.ite ?_ ?_
      · refine Fo.lui rfl hI (fun I11 hI11 => ?_)
        refine Fo.ite Fo.none ?_
        refine Fo.luf (fun _ => rfl) hI11 (fun I12 hI12 => ?_)
        exact Fo.some hI12 hJ
      · refine fr_X4_tryOrder_L51 rc hrc _ _ _ _ _ _ bgf _ _ _ hI hJ
    · exact Fo.some hI hJ
theorem fr_X4_tryOrder : ∀ (n : Nat) (l1 : Int32) (l2 : Int32) (l3 : Int32) (l4 : Int32) (I : HI) (J : HJ), Fo wi_X4_tryOrder wj_X4_tryOrder I J (F_X4_tryOrder n l1 l2 l3 l4 I J) := by
  intro n
  induction n with
  | zero => intro l1 l2 l3 l4 I J; exact Fo.none
  | succ n ih => intro l1 l2 l3 l4 I J; exact fr_X4_tryOrder_B (F_X4_tryOrder n) ih l1 l2 l3 l4 I J
theorem fr_X4_putInOrder  (I : HI) (J : HJ) : Fo wi_X4_putInOrder wj_X4_putInOrder I J (F_X4_putInOrder  I J) := by
  suffices key : ∀ (I0 : HI) (J0 : HJ), Sm wi_X4_putInOrder I0 I → Sm wj_X4_putInOrder J0 J → Fo wi_X4_putInOrder wj_X4_putInOrder I0 J0 (F_X4_putInOrder  I J) from key I J Sm.rf Sm.rf
  intro I0 J0 hI hJ
  unfold F_X4_putInOrder
  refine Fo.lui rfl hI (fun I2 hI2 => ?_)
  refine Fo.call (fr_X4_tryOrder 20 (0 : Int32) (0 : Int32) (0 : Int32) (0 : Int32) I2 J) (by decide) (by decide) hI2 hJ (fun _ I3 J4 hI3 hJ4 => ?_)
  exact Fo.some hI3 hJ4
theorem fr_X11_tellTurns_43_L9 (I0 : HI) (J0 : HJ) (l2 : Int32) : ∀ (K : Nat) (l3 : Int32) (I : HI) (J : HJ) (hI : Sm wi_X11_tellTurns_43 I0 I) (hJ : Sm wj_X11_tellTurns_43 J0 J), Fo wi_X11_tellTurns_43 wj_X11_tellTurns_43 I0 J0 (F_X11_tellTurns_43_L9 l2 K l3 I J) := by
  intro K
  induction K with
  | zero => intro l3 I J hI hJ; exact Fo.none
  | succ K ih =>
    intro l3 I J hI hJ
    rw [F_X11_tellTurns_43_L9]
    refine Fo.ite ?_ ?_
    · exact Fo.some hI hJ
    · refine Fo.ite ?_ ?_
      · exact Fo.some hI hJ
      · refine Fo.gbx ?_
        refine Fo.call (fr_X10_add (Int32.toInt64 (I x_parting_order (Int32.toNatClampNeg l3))) I J) (by decide) (by decide) hI hJ (fun _ I3 J4 hI3 hJ4 => ?_)
        exact ih _ _ _ hI3 hJ4
theorem fr_X11_tellTurns_43 (l2 : Int32) (I : HI) (J : HJ) : Fo wi_X11_tellTurns_43 wj_X11_tellTurns_43 I J (F_X11_tellTurns_43 l2 I J) := by
  suffices key : ∀ (I0 : HI) (J0 : HJ), Sm wi_X11_tellTurns_43 I0 I → Sm wj_X11_tellTurns_43 J0 J → Fo wi_X11_tellTurns_43 wj_X11_tellTurns_43 I0 J0 (F_X11_tellTurns_43 l2 I J) from key I J Sm.rf Sm.rf
  intro I0 J0 hI hJ
  unfold F_X11_tellTurns_43
  refine Fo.call (fr_X10_clear I J) (by decide) (by decide) hI hJ (fun _ I1 J2 hI1 hJ2 => ?_)
  refine fr_X11_tellTurns_43_L9 _ _ _ bgf _ _ _ hI1 hJ2
theorem fr_X11_changes (l1 : Int32) (I : HI) (J : HJ) : Fo wi_X11_changes wj_X11_changes I J (F_X11_changes l1 I J) := by
  suffices key : ∀ (I0 : HI) (J0 : HJ), Sm wi_X11_changes I0 I → Sm wj_X11_changes J0 J → Fo wi_X11_changes wj_X11_changes I0 J0 (F_X11_changes l1 I J) from key I J Sm.rf Sm.rf
  intro I0 J0 hI hJ
  unfold F_X11_changes
  refine Fo.call (fr_X11_partInto l1 I J) (by decide) (by decide) hI hJ (fun r1 I2 J3 hI2 hJ3 => ?_)
  refine Fo.ite ?_ ?_
  · refine Fo.ite ?_ ?_
    · refine Fo.call (fr_X4_putInOrder I2 J3) (by decide) (by decide) hI2 hJ3 (fun r4 I5 J6 hI5 hJ6 => ?_)
      refine Fo.call (fr_X11_tellTurns_43 r1 I5 J6) (by decide) (by decide) hI5 hJ6 (fun _ I7 J8 hI7 hJ8 => ?_)
      exact Fo.some hI7 hJ8
    · exact Fo.some hI2 hJ3
  · exact Fo.some hI2 hJ3
theorem fr_J7_fill_d0a16_47_L6 (I0 : HI) (J0 : HJ) (l1 : Int64) (l4 : Int32) (I : HI) (hI : Sm wi_J7_fill_d0a16_47 I0 I) : ∀ (K : Nat) (l3 : Int32) (J : HJ) (hJ : Sm wj_J7_fill_d0a16_47 J0 J), Fo wi_J7_fill_d0a16_47 wj_J7_fill_d0a16_47 I0 J0 (F_J7_fill_d0a16_47_L6 l1 l4 I K l3 J) := by
  intro K
  induction K with
  | zero => intro l3 J hJ; exact Fo.none
  | succ K ih =>
    intro l3 J hJ
    rw [F_J7_fill_d0a16_47_L6]
    refine Fo.ite ?_ ?_
    · exact Fo.some hI hJ
    · refine Fo.gbx ?_
      refine Fo.luj rfl hJ (fun J2 hJ2 => ?_)
      exact ih _ _ hJ2
theorem fr_J7_fill_d0a16_47 (l1 : Int64) (I : HI) (J : HJ) : Fo wi_J7_fill_d0a16_47 wj_J7_fill_d0a16_47 I J (F_J7_fill_d0a16_47 l1 I J) := by
  suffices key : ∀ (I0 : HI) (J0 : HJ), Sm wi_J7_fill_d0a16_47 I0 I → Sm wj_J7_fill_d0a16_47 J0 J → Fo wi_J7_fill_d0a16_47 wj_J7_fill_d0a16_47 I0 J0 (F_J7_fill_d0a16_47 l1 I J) from key I J Sm.rf Sm.rf
  intro I0 J0 hI hJ
  unfold F_J7_fill_d0a16_47
  refine fr_J7_fill_d0a16_47_L6 _ _ _ _ _ hI bgf _ _ hJ
theorem fr_X4_takeLights_L48 (I0 : HI) (J0 : HJ) (l1 : Int32) (I : HI) (kx110 : HJ → Option (Unit × HI × HJ)) (hI : Sm wi_X4_takeLights I0 I) (hkx110 : ∀ (J1 : HJ), Sm wj_X4_takeLights J0 J1 → Fo wi_X4_takeLights wj_X4_takeLights I0 J0 (kx110 J1)) : ∀ (K : Nat) (l2 : Int32) (J : HJ) (hJ : Sm wj_X4_takeLights J0 J), Fo wi_X4_takeLights wj_X4_takeLights I0 J0 (F_X4_takeLights_L48 l1 I kx110 K l2 J) := by
  intro K
  induction K with
  | zero => intro l2 J hJ; exact Fo.none
  | succ K ih =>
    intro l2 J hJ
    rw [F_X4_takeLights_L48]
    refine Fo.ite ?_ ?_
    · exact hkx110 _ hJ
    · refine Fo.gbx ?_
      refine Fo.gbx ?_
      refine Fo.gbx ?_
      refine Fo.luj rfl hJ (fun J6 hJ6 => ?_)
      refine Fo.gbx ?_
      refine Fo.gbx ?_
      refine Fo.gbx ?_
      refine Fo.gbx ?_
      refine Fo.luj rfl hJ6 (fun J7 hJ7 => ?_)
      exact ih _ _ hJ7
theorem fr_X4_takeLights_L2 (I0 : HI) (J0 : HJ)  : ∀ (K : Nat) (l1 : Int32) (I : HI) (J : HJ) (hI : Sm wi_X4_takeLights I0 I) (hJ : Sm wj_X4_takeLights J0 J), Fo wi_X4_takeLights wj_X4_takeLights I0 J0 (F_X4_takeLights_L2 K l1 I J) := by
  intro K
  induction K with
  | zero => intro l1 I J hI hJ; exact Fo.none
  | succ K ih =>
    intro l1 I J hI hJ
    rw [F_X4_takeLights_L2]
    refine Fo.ite ?_ ?_
    · exact Fo.some hI hJ
    · refine Fo.gbx ?_
      refine Fo.gbx ?_
      refine Fo.gbx ?_
      refine Fo.gbx ?_
      refine Fo.call (fr_X1_glowing (I x_table_high (Int32.toNatClampNeg (I x_parting_chosen (Int32.toNatClampNeg l1)))) (I x_table_low (Int32.toNatClampNeg (I x_parting_chosen (Int32.toNatClampNeg l1)))) I J) (by decide) (by decide) hI hJ (fun r3 I4 J5 hI4 hJ5 => ?_)
      refine fr_X4_takeLights_L48 _ _ _ _ _ hI4 (fun J8 hJ8 => ?_) bgf _ _ hJ5
      exact ih _ _ _ hI4 hJ8
theorem fr_X4_takeLights  (I : HI) (J : HJ) : Fo wi_X4_takeLights wj_X4_takeLights I J (F_X4_takeLights  I J) := by
  suffices key : ∀ (I0 : HI) (J0 : HJ), Sm wi_X4_takeLights I0 I → Sm wj_X4_takeLights J0 J → Fo wi_X4_takeLights wj_X4_takeLights I0 J0 (F_X4_takeLights  I J) from key I J Sm.rf Sm.rf
  intro I0 J0 hI hJ
  unfold F_X4_takeLights
  refine fr_X4_takeLights_L2 _ _ bgf _ _ _ hI hJ
theorem fr_X4_giveSlots_L2 (I0 : HI) (J0 : HJ) (l1 : Int32) (J : HJ) (kx23 : HI → Option (Int64 × HI × HJ)) (hJ : Sm wj_X4_giveSlots J0 J) (hkx23 : ∀ (I1 : HI), Sm wi_X4_giveSlots I0 I1 → Fo wi_X4_giveSlots wj_X4_giveSlots I0 J0 (kx23 I1)) : ∀ (K : Nat) (l2 : Int32) (I : HI) (hI : Sm wi_X4_giveSlots I0 I), Fo wi_X4_giveSlots wj_X4_giveSlots I0 J0 (F_X4_giveSlots_L2 l1 J kx23 K l2 I) := by
  intro K
  induction K with
  | zero => intro l2 I hI; exact Fo.none
  | succ K ih =>
    intro l2 I hI
    rw [F_X4_giveSlots_L2]
    refine Fo.ite ?_ ?_
    · exact hkx23 _ hI
    · refine Fo.gbx ?_
      refine Fo.lui rfl hI (fun I5 hI5 => ?_)
      exact ih _ _ hI5
theorem fr_X4_giveSlots_L76 (I0 : HI) (J0 : HJ) (l1 : Int32) (l2 : Int32) (l3 : Int32) (I : HI) (kx113 : HJ → Option (Int64 × HI × HJ)) (hI : Sm wi_X4_giveSlots I0 I) (hkx113 : ∀ (J1 : HJ), Sm wj_X4_giveSlots J0 J1 → Fo wi_X4_giveSlots wj_X4_giveSlots I0 J0 (kx113 J1)) : ∀ (K : Nat) (l4 : Int32) (J : HJ) (hJ : Sm wj_X4_giveSlots J0 J), Fo wi_X4_giveSlots wj_X4_giveSlots I0 J0 (F_X4_giveSlots_L76 l1 l2 l3 I kx113 K l4 J) := by
  intro K
  induction K with
  | zero => intro l4 J hJ; exact Fo.none
  | succ K ih =>
    intro l4 J hJ
    rw [F_X4_giveSlots_L76]
    refine Fo.ite ?_ ?_
    · exact hkx113 _ hJ
    · refine Fo.gbx ?_
      refine Fo.gbx ?_
      refine Fo.gbx ?_
      refine Fo.luj rfl hJ (fun J15 hJ15 => ?_)
      exact ih _ _ hJ15
theorem fr_X4_giveSlots_L49 (I0 : HI) (J0 : HJ) (l1 : Int32) (kx119 : HI → HJ → Option (Int64 × HI × HJ)) (hkx119 : ∀ (I1 : HI) (J1 : HJ), Sm wi_X4_giveSlots I0 I1 → Sm wj_X4_giveSlots J0 J1 → Fo wi_X4_giveSlots wj_X4_giveSlots I0 J0 (kx119 I1 J1)) : ∀ (K : Nat) (l2 : Int32) (I : HI) (J : HJ) (hI : Sm wi_X4_giveSlots I0 I) (hJ : Sm wj_X4_giveSlots J0 J), Fo wi_X4_giveSlots wj_X4_giveSlots I0 J0 (F_X4_giveSlots_L49 l1 kx119 K l2 I J) := by
  intro K
  induction K with
  | zero => intro l2 I J hI hJ; exact Fo.none
  | succ K ih =>
    intro l2 I J hI hJ
    rw [F_X4_giveSlots_L49]
    refine Fo.ite ?_ ?_
    · exact hkx119 _ _ hI hJ
    · refine Fo.callp (fun r12 => ?_)
      refine Fo.callp (fun r13 => ?_)
      refine Fo.gbx ?_
      refine Fo.gbx ?_
      refine Fo.lui rfl hI (fun I14 hI14 => ?_)
      refine fr_X4_giveSlots_L76 _ _ _ _ _ _ _ hI14 (fun J16 hJ16 => ?_) bgf _ _ hJ
      exact ih _ _ _ hI14 hJ16
theorem fr_X4_giveSlots (l1 : Int32) (I : HI) (J : HJ) : Fo wi_X4_giveSlots wj_X4_giveSlots I J (F_X4_giveSlots l1 I J) := by
  suffices key : ∀ (I0 : HI) (J0 : HJ), Sm wi_X4_giveSlots I0 I → Sm wj_X4_giveSlots J0 J → Fo wi_X4_giveSlots wj_X4_giveSlots I0 J0 (F_X4_giveSlots l1 I J) from key I J Sm.rf Sm.rf
  intro I0 J0 hI hJ
  unfold F_X4_giveSlots
  refine fr_X4_giveSlots_L2 _ _ _ _ _ hJ (fun I6 hI6 => ?_) bgf _ _ hI
  refine Fo.call (fr_J7_fill_d0a16_47 (0 : Int64) I6 J) (by decide) (by decide) hI6 hJ (fun _ I7 J8 hI7 hJ8 => ?_)
  refine Fo.call (fr_X4_takeLights I7 J8) (by decide) (by decide) hI7 hJ8 (fun _ I9 J10 hI9 hJ10 => ?_)
  refine Fo.ite ?_ ?_
  · exact Fo.some hI9 hJ10
  · refine Fo.lbv (fun x11 => ?_)
    refine fr_X4_giveSlots_L49 _ _ _ _ (fun I17 J18 hI17 hJ18 => ?_) bgf _ _ _ hI9 hJ10
    refine Fo.callp (fun r19 => ?_)
    refine Fo.gbx ?_
    exact Fo.some hI17 hJ18
theorem fr_X11_tellTurns_45_L9 (I0 : HI) (J0 : HJ) (l2 : Int32) : ∀ (K : Nat) (l3 : Int32) (I : HI) (J : HJ) (hI : Sm wi_X11_tellTurns_45 I0 I) (hJ : Sm wj_X11_tellTurns_45 J0 J), Fo wi_X11_tellTurns_45 wj_X11_tellTurns_45 I0 J0 (F_X11_tellTurns_45_L9 l2 K l3 I J) := by
  intro K
  induction K with
  | zero => intro l3 I J hI hJ; exact Fo.none
  | succ K ih =>
    intro l3 I J hI hJ
    rw [F_X11_tellTurns_45_L9]
    refine Fo.ite ?_ ?_
    · exact Fo.some hI hJ
    · refine Fo.ite ?_ ?_
      · exact Fo.some hI hJ
      · refine Fo.gbx ?_
        refine Fo.call (fr_X10_add (Int32.toInt64 (I x_parting_slots (Int32.toNatClampNeg l3))) I J) (by decide) (by decide) hI hJ (fun _ I3 J4 hI3 hJ4 => ?_)
        exact ih _ _ _ hI3 hJ4
theorem fr_X11_tellTurns_45 (l2 : Int32) (I : HI) (J : HJ) : Fo wi_X11_tellTurns_45 wj_X11_tellTurns_45 I J (F_X11_tellTurns_45 l2 I J) := by
  suffices key : ∀ (I0 : HI) (J0 : HJ), Sm wi_X11_tellTurns_45 I0 I → Sm wj_X11_tellTurns_45 J0 J → Fo wi_X11_tellTurns_45 wj_X11_tellTurns_45 I0 J0 (F_X11_tellTurns_45 l2 I J) from key I J Sm.rf Sm.rf
  intro I0 J0 hI hJ
  unfold F_X11_tellTurns_45
  refine Fo.call (fr_X10_clear I J) (by decide) (by decide) hI hJ (fun _ I1 J2 hI1 hJ2 => ?_)
  refine fr_X11_tellTurns_45_L9 _ _ _ bgf _ _ _ hI1 hJ2
theorem fr_X11_even (l1 : Int32) (l2 : Int32) (I : HI) (J : HJ) : Fo wi_X11_even wj_X11_even I J (F_X11_even l1 l2 I J) := by
  suffices key : ∀ (I0 : HI) (J0 : HJ), Sm wi_X11_even I0 I → Sm wj_X11_even J0 J → Fo wi_X11_even wj_X11_even I0 J0 (F_X11_even l1 l2 I J) from key I J Sm.rf Sm.rf
  intro I0 J0 hI hJ
  unfold F_X11_even
  refine Fo.callp (fun r1 => ?_)
  refine Fo.ite ?_ ?_
  · exact Fo.some hI hJ
  · refine Fo.ite ?_ ?_
    · exact Fo.some hI hJ
    · refine Fo.ite ?_ ?_
      · refine Fo.call (fr_X11_partInto l1 I J) (by decide) (by decide) hI hJ (fun r2 I3 J4 hI3 hJ4 => ?_)
        refine Fo.ite ?_ ?_
        · refine Fo.ite ?_ ?_
          · refine Fo.call (fr_X4_giveSlots l2 I3 J4) (by decide) (by decide) hI3 hJ4 (fun r5 I6 J7 hI6 hJ7 => ?_)
            refine Fo.call (fr_X11_tellTurns_45 r2 I6 J7) (by decide) (by decide) hI6 hJ7 (fun _ I8 J9 hI8 hJ9 => ?_)
            exact Fo.some hI8 hJ9
          · exact Fo.some hI3 hJ4
        · exact Fo.some hI3 hJ4
      · exact Fo.some hI hJ
theorem fr_X11_partTraded (l1 : Int64) (l3 : Int32) (l4 : Int32) (I : HI) (J : HJ) : Fo wi_X11_partTraded wj_X11_partTraded I J (F_X11_partTraded l1 l3 l4 I J) := by
  suffices key : ∀ (I0 : HI) (J0 : HJ), Sm wi_X11_partTraded I0 I → Sm wj_X11_partTraded J0 J → Fo wi_X11_partTraded wj_X11_partTraded I0 J0 (F_X11_partTraded l1 l3 l4 I J) from key I J Sm.rf Sm.rf
  intro I0 J0 hI hJ
  unfold F_X11_partTraded
  refine Fo.call (fr_X0_trade l3 l4 I J) (by decide) (by decide) hI hJ (fun _ I3 J4 hI3 hJ4 => ?_)
  refine Fo.lui rfl hI3 (fun I5 hI5 => ?_)
  refine Fo.call (fr_X8_refresh I5 J4) (by decide) (by decide) hI5 hJ4 (fun _ I6 J7 hI6 hJ7 => ?_)
  refine Fo.call (fr_X4_open l1 I6 J7) (by decide) (by decide) hI6 hJ7 (fun _ I8 J9 hI8 hJ9 => ?_)
  refine Fo.call (fr_X4_part I8 J9) (by decide) (by decide) hI8 hJ9 (fun r10 I11 J12 hI11 hJ12 => ?_)
  refine Fo.call (fr_X0_trade l3 l4 I11 J12) (by decide) (by decide) hI11 hJ12 (fun _ I13 J14 hI13 hJ14 => ?_)
  refine Fo.lui rfl hI13 (fun I15 hI15 => ?_)
  exact Fo.some hI15 hJ14
theorem fr_X11_better_L82 (I0 : HI) (J0 : HJ) (l1 : Int32) (l2 : Int32) (l6 : Int32) (kx145 : Int32 → Int32 → Int32 → HI → HJ → Option (Int32 × HI × HJ)) (hkx145 : ∀ (y3 : Int32) (y4 : Int32) (y5 : Int32) (I1 : HI) (J1 : HJ), Sm wi_X11_better I0 I1 → Sm wj_X11_better J0 J1 → Fo wi_X11_better wj_X11_better I0 J0 (kx145 y3 y4 y5 I1 J1)) : ∀ (K : Nat) (l3 : Int32) (l4 : Int32) (l5 : Int32) (l7 : Int32) (I : HI) (J : HJ) (hI : Sm wi_X11_better I0 I) (hJ : Sm wj_X11_better J0 J), Fo wi_X11_better wj_X11_better I0 J0 (F_X11_better_L82 l1 l2 l6 kx145 K l3 l4 l5 l7 I J) := by
  intro K
  induction K with
  | zero => intro l3 l4 l5 l7 I J hI hJ; exact Fo.none
  | succ K ih =>
    intro l3 l4 l5 l7 I J hI hJ
    rw [F_X11_better_L82]
    refine Fo.ite ?_ ?_
    · exact hkx145 _ _ _ _ _ hI hJ
    · refine Fo.gbx ?_
      refine Fo.call (fr_X11_partTraded (J x_notes_pictures (Int32.toNatClampNeg l1)) l6 l7 I J) (by decide) (by decide) hI hJ (fun r7 I8 J9 hI8 hJ9 => ?_)
      refine Fo.jn (fun j => ∀ (y10 : Int32) (y11 : Int32) (y12 : Int32), Fo wi_X11_better wj_X11_better I0 J0 (j y10 y11 y12)) (fun y10 y11 y12 => ?_) (fun j13 hj13 => ?_)
      · exact ih _ _ _ _ _ _ hI8 hJ9
      · refine Fo.ite ?_ ?_
        · exact hj13 _ _ _
        · refine Fo.jn (fun j => Fo wi_X11_better wj_X11_better I0 J0 (j)) ?_ (fun j14 hj14 => ?_)
          · exact hj13 _ _ _
          · refine Fo.ite ?_ ?_
            · exact hj14
            · refine Fo.ite ?_ ?_
              · exact hj13 _ _ _
              · exact hj14
theorem fr_X11_better_L64 (I0 : HI) (J0 : HJ) (l1 : Int32) (l2 : Int32) (kx151 : Int32 → Int32 → Int32 → HI → HJ → Option (Int32 × HI × HJ)) (hkx151 : ∀ (y3 : Int32) (y4 : Int32) (y5 : Int32) (I1 : HI) (J1 : HJ), Sm wi_X11_better I0 I1 → Sm wj_X11_better J0 J1 → Fo wi_X11_better wj_X11_better I0 J0 (kx151 y3 y4 y5 I1 J1)) : ∀ (K : Nat) (l3 : Int32) (l4 : Int32) (l5 : Int32) (l6 : Int32) (I : HI) (J : HJ) (hI : Sm wi_X11_better I0 I) (hJ : Sm wj_X11_better J0 J), Fo wi_X11_better wj_X11_better I0 J0 (F_X11_better_L64 l1 l2 kx151 K l3 l4 l5 l6 I J) := by
  intro K
  induction K with
  | zero => intro l3 l4 l5 l6 I J hI hJ; exact Fo.none
  | succ K ih =>
    intro l3 l4 l5 l6 I J hI hJ
    rw [F_X11_better_L64]
    refine Fo.ite ?_ ?_
    · exact hkx151 _ _ _ _ _ hI hJ
    · refine Fo.lbv (fun x6 => ?_)
      refine fr_X11_better_L82 _ _ _ _ _ _ (fun y15 y16 y17 I18 J19 hI18 hJ19 => ?_) bgf _ _ _ _ _ _ hI hJ
      exact ih _ _ _ _ _ _ hI18 hJ19
theorem fr_X11_better (l1 : Int32) (I : HI) (J : HJ) : Fo wi_X11_better wj_X11_better I J (F_X11_better l1 I J) := by
  suffices key : ∀ (I0 : HI) (J0 : HJ), Sm wi_X11_better I0 I → Sm wj_X11_better J0 J → Fo wi_X11_better wj_X11_better I0 J0 (F_X11_better l1 I J) from key I J Sm.rf Sm.rf
  intro I0 J0 hI hJ
  unfold F_X11_better
  refine Fo.callp (fun r2 => ?_)
  refine Fo.ite ?_ ?_
  · exact Fo.some hI hJ
  · refine Fo.ite ?_ ?_
    · refine Fo.ite ?_ ?_
      · exact Fo.some hI hJ
      · refine Fo.ite ?_ ?_
        · refine Fo.call (fr_X11_partInto l1 I J) (by decide) (by decide) hI hJ (fun r3 I4 J5 hI4 hJ5 => ?_)
          refine fr_X11_better_L64 _ _ _ _ _ (fun y20 y21 y22 I23 J24 hI23 hJ24 => ?_) bgf _ _ _ _ _ _ hI4 hJ5
          refine Fo.ite ?_ ?_
          · exact Fo.some hI23 hJ24
          · refine Fo.call (fr_X10_clear I23 J24) (by decide) (by decide) hI23 hJ24 (fun _ I25 J26 hI25 hJ26 => ?_)
            refine Fo.call (fr_X10_add (Int32.toInt64 y21) I25 J26) (by decide) (by decide) hI25 hJ26 (fun _ I27 J28 hI27 hJ28 => ?_)
            refine Fo.call (fr_X10_add (Int32.toInt64 y22) I27 J28) (by decide) (by decide) hI27 hJ28 (fun _ I29 J30 hI29 hJ30 => ?_)
            refine Fo.call (fr_X10_add (Int32.toInt64 r3) I29 J30) (by decide) (by decide) hI29 hJ30 (fun _ I31 J32 hI31 hJ32 => ?_)
            exact Fo.some hI31 hJ32
        · exact Fo.some hI hJ
    · exact Fo.some hI hJ
theorem fr_X11_faults  (I : HI) (J : HJ) : Fo wi_X11_faults wj_X11_faults I J (F_X11_faults  I J) := by
  suffices key : ∀ (I0 : HI) (J0 : HJ), Sm wi_X11_faults I0 I → Sm wj_X11_faults J0 J → Fo wi_X11_faults wj_X11_faults I0 J0 (F_X11_faults  I J) from key I J Sm.rf Sm.rf
  intro I0 J0 hI hJ
  unfold F_X11_faults
  refine Fo.call (fr_X10_clear I J) (by decide) (by decide) hI hJ (fun _ I1 J2 hI1 hJ2 => ?_)
  refine Fo.callp (fun r3 => ?_)
  refine Fo.call (fr_X10_add (Int32.toInt64 r3) I1 J2) (by decide) (by decide) hI1 hJ2 (fun _ I4 J5 hI4 hJ5 => ?_)
  refine Fo.callp (fun r6 => ?_)
  refine Fo.call (fr_X10_add (Int32.toInt64 r6) I4 J5) (by decide) (by decide) hI4 hJ5 (fun _ I7 J8 hI7 hJ8 => ?_)
  refine Fo.callp (fun r9 => ?_)
  exact Fo.some hI7 hJ8
theorem fr_X1_turn (l1 : Int32) (I : HI) (J : HJ) : Fo wi_X1_turn wj_X1_turn I J (F_X1_turn l1 I J) := by
  suffices key : ∀ (I0 : HI) (J0 : HJ), Sm wi_X1_turn I0 I → Sm wj_X1_turn J0 J → Fo wi_X1_turn wj_X1_turn I0 J0 (F_X1_turn l1 I J) from key I J Sm.rf Sm.rf
  intro I0 J0 hI hJ
  unfold F_X1_turn
  refine Fo.gbx ?_
  refine Fo.lbv (fun x9 => ?_)
  refine Fo.gbx ?_
  refine Fo.lbv (fun x10 => ?_)
  refine Fo.lbv (fun x11 => ?_)
  refine Fo.gbx ?_
  refine Fo.gbx ?_
  refine Fo.luj rfl hJ (fun J12 hJ12 => ?_)
  refine Fo.gbx ?_
  refine Fo.gbx ?_
  refine Fo.luj rfl hJ12 (fun J13 hJ13 => ?_)
  refine Fo.gbx ?_
  refine Fo.gbx ?_
  refine Fo.luj rfl hJ13 (fun J14 hJ14 => ?_)
  refine Fo.gbx ?_
  refine Fo.gbx ?_
  refine Fo.luj rfl hJ14 (fun J15 hJ15 => ?_)
  refine Fo.lui rfl hI (fun I16 hI16 => ?_)
  exact Fo.some hI16 hJ15
theorem fr_X1_join (l1 : Int32) (l2 : Int32) (I : HI) (J : HJ) : Fo wi_X1_join wj_X1_join I J (F_X1_join l1 l2 I J) := by
  suffices key : ∀ (I0 : HI) (J0 : HJ), Sm wi_X1_join I0 I → Sm wj_X1_join J0 J → Fo wi_X1_join wj_X1_join I0 J0 (F_X1_join l1 l2 I J) from key I J Sm.rf Sm.rf
  intro I0 J0 hI hJ
  unfold F_X1_join
  refine Fo.lbv (fun x14 => ?_)
  refine Fo.lbv (fun x15 => ?_)
  refine Fo.jn (fun j => Fo wi_X1_join wj_X1_join I0 J0 (j)) ?_ (fun j16 hj16 => ?_)
  · refine Fo.jn (fun j => ∀ (I17 : HI), Sm wi_X1_join I0 I17 → Fo wi_X1_join wj_X1_join I0 J0 (j I17)) (fun I17 hI17 => ?_) (fun j18 hj18 => ?_)
    · refine Fo.jn (fun j => ∀ (y19 : Int32), Fo wi_X1_join wj_X1_join I0 J0 (j y19)) (fun y19 => ?_) (fun j20 hj20 => ?_)
      · refine Fo.lui rfl hI17 (fun I21 hI21 => ?_)
        refine Fo.jn (fun j => ∀ (y22 : Int32), Fo wi_X1_join wj_X1_join I0 J0 (j y22)) (fun y22 => ?_) (fun j23 hj23 => ?_)
        · refine Fo.lui rfl hI21 (fun I24 hI24 => ?_)
          refine Fo.gbx ?_
          refine Fo.gbx ?_
          refine Fo.gbx ?_
          refine Fo.gbx ?_
          refine Fo.lbv (fun x25 => ?_)
          refine Fo.gbx ?_
          refine Fo.gbx ?_
          refine Fo.gbx ?_
          refine Fo.luj rfl hJ (fun J26 hJ26 => ?_)
          refine Fo.gbx ?_
          refine Fo.gbx ?_
          refine Fo.gbx ?_
          refine Fo.luj rfl hJ26 (fun J27 hJ27 => ?_)
          refine Fo.gbx ?_
          refine Fo.luj rfl hJ27 (fun J28 hJ28 => ?_)
          refine Fo.gbx ?_
          refine Fo.luj rfl hJ28 (fun J29 hJ29 => ?_)
          refine Fo.lui rfl hI24 (fun I30 hI30 => ?_)
          refine Fo.lui rfl hI30 (fun I31 hI31 => ?_)
          exact Fo.some hI31 hJ29
        · refine Fo.ite ?_ ?_
          · exact hj23 _
          · exact hj23 _
      · refine Fo.ite ?_ ?_
        · exact hj20 _
        · exact hj20 _
    · refine Fo.ite ?_ ?_
      · refine Fo.gbx ?_
        refine Fo.gbx ?_
        refine Fo.lui rfl hI (fun I32 hI32 => ?_)
        exact hj18 _ hI32
      · exact hj18 _ hI
  · refine Fo.ite ?_ ?_
    · exact hj16
    · refine Fo.ite ?_ ?_
      · exact hj16
      · refine Fo.lui rfl hI (fun I33 hI33 => ?_)
        exact Fo.some hI33 hJ
theorem fr_X1_cut (l1 : Int32) (I : HI) (J : HJ) : Fo wi_X1_cut wj_X1_cut I J (F_X1_cut l1 I J) := by
  suffices key : ∀ (I0 : HI) (J0 : HJ), Sm wi_X1_cut I0 I → Sm wj_X1_cut J0 J → Fo wi_X1_cut wj_X1_cut I0 J0 (F_X1_cut l1 I J) from key I J Sm.rf Sm.rf
  intro I0 J0 hI hJ
  unfold F_X1_cut
  refine Fo.gbx ?_
  refine Fo.luj rfl hJ (fun J3 hJ3 => ?_)
  refine Fo.gbx ?_
  refine Fo.luj rfl hJ3 (fun J4 hJ4 => ?_)
  exact Fo.some hI hJ4
theorem fr_X7_glowWith (l1 : Int32) (l2 : Int32) (l3 : Int32) (I : HI) (J : HJ) : Fo wi_X7_glowWith wj_X7_glowWith I J (F_X7_glowWith l1 l2 l3 I J) := by
  suffices key : ∀ (I0 : HI) (J0 : HJ), Sm wi_X7_glowWith I0 I → Sm wj_X7_glowWith J0 J → Fo wi_X7_glowWith wj_X7_glowWith I0 J0 (F_X7_glowWith l1 l2 l3 I J) from key I J Sm.rf Sm.rf
  intro I0 J0 hI hJ
  unfold F_X7_glowWith
  refine Fo.call (fr_X1_lay l2 l3 I J) (by decide) (by decide) hI hJ (fun _ I1 J2 hI1 hJ2 => ?_)
  refine Fo.callp (fun r3 => ?_)
  refine Fo.jn (fun j => ∀ (I4 : HI) (J5 : HJ), Sm wi_X7_glowWith I0 I4 → Sm wj_X7_glowWith J0 J5 → Fo wi_X7_glowWith wj_X7_glowWith I0 J0 (j I4 J5)) (fun I4 J5 hI4 hJ5 => ?_) (fun j6 hj6 => ?_)
  · refine Fo.call (fr_X1_run I4 J5) (by decide) (by decide) hI4 hJ5 (fun r7 I8 J9 hI8 hJ9 => ?_)
    exact Fo.some hI8 hJ9
  · refine Fo.ite ?_ ?_
    · refine Fo.callp (fun r10 => ?_)
      refine Fo.call (fr_X1_cut r10 I1 J2) (by decide) (by decide) hI1 hJ2 (fun _ I11 J12 hI11 hJ12 => ?_)
      exact hj6 _ _ hI11 hJ12
    refine Fo.ite ?_ ?_
    · refine Fo.callp (fun r13 => ?_)
      refine Fo.callp (fun r14 => ?_)
      refine Fo.call (fr_X1_join r13 r14 I1 J2) (by decide) (by decide) hI1 hJ2 (fun _ I15 J16 hI15 hJ16 => ?_)
      exact hj6 _ _ hI15 hJ16
    refine Fo.ite ?_ ?_
    · refine Fo.callp (fun r17 => ?_)
      refine Fo.call (fr_X1_turn r17 I1 J2) (by decide) (by decide) hI1 hJ2 (fun _ I18 J19 hI18 hJ19 => ?_)
      exact hj6 _ _ hI18 hJ19
    · exact hj6 _ _ hI1 hJ2
theorem fr_X11_would (l1 : Int32) (l2 : Int32) (l3 : Int32) (I : HI) (J : HJ) : Fo wi_X11_would wj_X11_would I J (F_X11_would l1 l2 l3 I J) := by
  suffices key : ∀ (I0 : HI) (J0 : HJ), Sm wi_X11_would I0 I → Sm wj_X11_would J0 J → Fo wi_X11_would wj_X11_would I0 J0 (F_X11_would l1 l2 l3 I J) from key I J Sm.rf Sm.rf
  intro I0 J0 hI hJ
  unfold F_X11_would
  refine Fo.callp (fun r1 => ?_)
  refine Fo.ite ?_ ?_
  · exact Fo.some hI hJ
  · refine Fo.callp (fun r2 => ?_)
    refine Fo.ite ?_ ?_
    · exact Fo.some hI hJ
    · refine Fo.call (fr_X7_glowWith l1 l2 l3 I J) (by decide) (by decide) hI hJ (fun r3 I4 J5 hI4 hJ5 => ?_)
      exact Fo.some hI4 hJ5
theorem fr_X7_glowBy (l1 : Int32) (l2 : Int32) (I : HI) (J : HJ) : Fo wi_X7_glowBy wj_X7_glowBy I J (F_X7_glowBy l1 l2 I J) := by
  suffices key : ∀ (I0 : HI) (J0 : HJ), Sm wi_X7_glowBy I0 I → Sm wj_X7_glowBy J0 J → Fo wi_X7_glowBy wj_X7_glowBy I0 J0 (F_X7_glowBy l1 l2 I J) from key I J Sm.rf Sm.rf
  intro I0 J0 hI hJ
  unfold F_X7_glowBy
  refine Fo.ite ?_ ?_
  · refine Fo.gbx ?_
    exact Fo.some hI hJ
  · refine Fo.gbx ?_
    refine Fo.lbv (fun x3 => ?_)
    refine Fo.gbx ?_
    refine Fo.lbv (fun x4 => ?_)
    refine Fo.ite ?_ ?_
    · exact Fo.some hI hJ
    · refine Fo.ite ?_ ?_
      · exact Fo.some hI hJ
      · refine Fo.call (fr_X7_glowWith l1 x3 x4 I J) (by decide) (by decide) hI hJ (fun r5 I6 J7 hI6 hJ7 => ?_)
        exact Fo.some hI6 hJ7
theorem fr_X7_firstParting_L3 (I0 : HI) (J0 : HJ) (l1 : Int32) (l2 : Int32) : ∀ (K : Nat) (l4 : Int32) (I : HI) (J : HJ) (hI : Sm wi_X7_firstParting I0 I) (hJ : Sm wj_X7_firstParting J0 J), Fo wi_X7_firstParting wj_X7_firstParting I0 J0 (F_X7_firstParting_L3 l1 l2 K l4 I J) := by
  intro K
  induction K with
  | zero => intro l4 I J hI hJ; exact Fo.none
  | succ K ih =>
    intro l4 I J hI hJ
    rw [F_X7_firstParting_L3]
    refine Fo.ite ?_ ?_
    · exact Fo.some hI hJ
    · refine Fo.ite ?_ ?_
      · exact Fo.some hI hJ
      · refine Fo.call (fr_X7_glowBy l1 l4 I J) (by decide) (by decide) hI hJ (fun r1 I2 J3 hI2 hJ3 => ?_)
        refine Fo.call (fr_X7_glowBy l2 l4 I2 J3) (by decide) (by decide) hI2 hJ3 (fun r4 I5 J6 hI5 hJ6 => ?_)
        refine Fo.ite ?_ ?_
        · exact ih _ _ _ hI5 hJ6
        · exact Fo.some hI5 hJ6
theorem fr_X7_firstParting (l1 : Int32) (l2 : Int32) (l3 : Int32) (I : HI) (J : HJ) : Fo wi_X7_firstParting wj_X7_firstParting I J (F_X7_firstParting l1 l2 l3 I J) := by
  suffices key : ∀ (I0 : HI) (J0 : HJ), Sm wi_X7_firstParting I0 I → Sm wj_X7_firstParting J0 J → Fo wi_X7_firstParting wj_X7_firstParting I0 J0 (F_X7_firstParting l1 l2 l3 I J) from key I J Sm.rf Sm.rf
  intro I0 J0 hI hJ
  unfold F_X7_firstParting
  refine fr_X7_firstParting_L3 _ _ _ _ bgf _ _ _ hI hJ
theorem fr_X11_tells_L46 (I0 : HI) (J0 : HJ) (l1 : Int32) : ∀ (K : Nat) (l2 : Int32) (l3 : Int32) (l4 : Int32) (I : HI) (J : HJ) (hI : Sm wi_X11_tells I0 I) (hJ : Sm wj_X11_tells J0 J), Fo wi_X11_tells wj_X11_tells I0 J0 (F_X11_tells_L46 l1 K l2 l3 l4 I J) := by
  intro K
  induction K with
  | zero => intro l2 l3 l4 I J hI hJ; exact Fo.none
  | succ K ih =>
    intro l2 l3 l4 I J hI hJ
    rw [F_X11_tells_L46]
    refine Fo.ite ?_ ?_
    · exact Fo.some hI hJ
    · refine Fo.ite ?_ ?_
      · exact Fo.some hI hJ
      · refine Fo.jn (fun j => ∀ (I10 : HI) (J11 : HJ), Sm wi_X11_tells I0 I10 → Sm wj_X11_tells J0 J11 → Fo wi_X11_tells wj_X11_tells I0 J0 (j I10 J11)) (fun I10 J11 hI10 hJ11 => ?_) (fun j12 hj12 => ?_)
        · refine Fo.call (fr_X7_firstParting (0 : Int32) l1 (l3 + (1 : Int32)) I10 J11) (by decide) (by decide) hI10 hJ11 (fun r13 I14 J15 hI14 hJ15 => ?_)
          exact ih _ _ _ _ _ hI14 hJ15
        · refine Fo.ite ?_ ?_
          · refine Fo.call (fr_X10_add (Int32.toInt64 l3) I J) (by decide) (by decide) hI hJ (fun _ I16 J17 hI16 hJ17 => ?_)
            exact hj12 _ _ hI16 hJ17
          · exact hj12 _ _ hI hJ
theorem fr_X11_tells (l1 : Int32) (I : HI) (J : HJ) : Fo wi_X11_tells wj_X11_tells I J (F_X11_tells l1 I J) := by
  suffices key : ∀ (I0 : HI) (J0 : HJ), Sm wi_X11_tells I0 I → Sm wj_X11_tells J0 J → Fo wi_X11_tells wj_X11_tells I0 J0 (F_X11_tells l1 I J) from key I J Sm.rf Sm.rf
  intro I0 J0 hI hJ
  unfold F_X11_tells
  refine Fo.callp (fun r1 => ?_)
  refine Fo.ite ?_ ?_
  · exact Fo.some hI hJ
  · refine Fo.call (fr_X11_openTable I J) (by decide) (by decide) hI hJ (fun r2 I3 J4 hI3 hJ4 => ?_)
    refine Fo.ite ?_ ?_
    · exact Fo.some hI3 hJ4
    · refine Fo.call (fr_X10_clear I3 J4) (by decide) (by decide) hI3 hJ4 (fun _ I5 J6 hI5 hJ6 => ?_)
      refine Fo.call (fr_X7_firstParting (0 : Int32) l1 (0 : Int32) I5 J6) (by decide) (by decide) hI5 hJ6 (fun r7 I8 J9 hI8 hJ9 => ?_)
      refine fr_X11_tells_L46 _ _ _ bgf _ _ _ _ _ hI8 hJ9
theorem fr_X11_hidden_L21 (I0 : HI) (J0 : HJ)  : ∀ (K : Nat) (l1 : Int32) (l2 : Int32) (I : HI) (J : HJ) (hI : Sm wi_X11_hidden I0 I) (hJ : Sm wj_X11_hidden J0 J), Fo wi_X11_hidden wj_X11_hidden I0 J0 (F_X11_hidden_L21 K l1 l2 I J) := by
  intro K
  induction K with
  | zero => intro l1 l2 I J hI hJ; exact Fo.none
  | succ K ih =>
    intro l1 l2 I J hI hJ
    rw [F_X11_hidden_L21]
    refine Fo.callp (fun r6 => ?_)
    refine Fo.ite ?_ ?_
    · exact Fo.some hI hJ
    · refine Fo.call (fr_X7_firstParting (0 : Int32) l2 (0 : Int32) I J) (by decide) (by decide) hI hJ (fun r7 I8 J9 hI8 hJ9 => ?_)
      refine Fo.jn (fun j => ∀ (y10 : Int32) (I11 : HI) (J12 : HJ), Sm wi_X11_hidden I0 I11 → Sm wj_X11_hidden J0 J12 → Fo wi_X11_hidden wj_X11_hidden I0 J0 (j y10 I11 J12)) (fun y10 I11 J12 hI11 hJ12 => ?_) (fun j13 hj13 => ?_)
      · exact ih _ _ _ _ hI11 hJ12
      · refine Fo.ite ?_ ?_
        · refine Fo.jn (fun j => ∀ (I14 : HI) (J15 : HJ), Sm wi_X11_hidden I0 I14 → Sm wj_X11_hidden J0 J15 → Fo wi_X11_hidden wj_X11_hidden I0 J0 (j I14 J15)) (fun I14 J15 hI14 hJ15 => ?_) (fun j16 hj16 => ?_)
          · exact hj13 _ _ _ hI14 hJ15
          · refine Fo.ite ?_ ?_
            · exact hj16 _ _ hI8 hJ9
            · refine Fo.call (fr_X10_add (Int32.toInt64 l2) I8 J9) (by decide) (by decide) hI8 hJ9 (fun _ I17 J18 hI17 hJ18 => ?_)
              exact hj16 _ _ hI17 hJ18
        · exact hj13 _ _ _ hI8 hJ9
theorem fr_X11_hidden  (I : HI) (J : HJ) : Fo wi_X11_hidden wj_X11_hidden I J (F_X11_hidden  I J) := by
  suffices key : ∀ (I0 : HI) (J0 : HJ), Sm wi_X11_hidden I0 I → Sm wj_X11_hidden J0 J → Fo wi_X11_hidden wj_X11_hidden I0 J0 (F_X11_hidden  I J) from key I J Sm.rf Sm.rf
  intro I0 J0 hI hJ
  unfold F_X11_hidden
  refine Fo.call (fr_X11_openTable I J) (by decide) (by decide) hI hJ (fun r1 I2 J3 hI2 hJ3 => ?_)
  refine Fo.ite ?_ ?_
  · exact Fo.some hI2 hJ3
  · refine Fo.call (fr_X10_clear I2 J3) (by decide) (by decide) hI2 hJ3 (fun _ I4 J5 hI4 hJ5 => ?_)
    refine fr_X11_hidden_L21 _ _ bgf _ _ _ _ hI4 hJ5
theorem fr_X11_alike (l1 : Int32) (l2 : Int32) (I : HI) (J : HJ) : Fo wi_X11_alike wj_X11_alike I J (F_X11_alike l1 l2 I J) := by
  suffices key : ∀ (I0 : HI) (J0 : HJ), Sm wi_X11_alike I0 I → Sm wj_X11_alike J0 J → Fo wi_X11_alike wj_X11_alike I0 J0 (F_X11_alike l1 l2 I J) from key I J Sm.rf Sm.rf
  intro I0 J0 hI hJ
  unfold F_X11_alike
  refine Fo.callp (fun r1 => ?_)
  refine Fo.ite ?_ ?_
  · exact Fo.some hI hJ
  · refine Fo.callp (fun r2 => ?_)
    refine Fo.ite ?_ ?_
    · exact Fo.some hI hJ
    · refine Fo.call (fr_X11_openTable I J) (by decide) (by decide) hI hJ (fun r3 I4 J5 hI4 hJ5 => ?_)
      refine Fo.ite ?_ ?_
      · exact Fo.some hI4 hJ5
      · refine Fo.call (fr_X7_firstParting l1 l2 (0 : Int32) I4 J5) (by decide) (by decide) hI4 hJ5 (fun r6 I7 J8 hI7 hJ8 => ?_)
        refine Fo.ite ?_ ?_
        · exact Fo.some hI7 hJ8
        · refine Fo.call (fr_X10_clear I7 J8) (by decide) (by decide) hI7 hJ8 (fun _ I9 J10 hI9 hJ10 => ?_)
          refine Fo.call (fr_X10_add (Int32.toInt64 r6) I9 J10) (by decide) (by decide) hI9 hJ10 (fun _ I11 J12 hI11 hJ12 => ?_)
          exact Fo.some hI11 hJ12
theorem fr_X3_addSeen_25 (l1 : Int32) (l2 : Int32) (l3 : Int64) (I : HI) (J : HJ) : Fo wi_X3_addSeen_25 wj_X3_addSeen_25 I J (F_X3_addSeen_25 l1 l2 l3 I J) := by
  suffices key : ∀ (I0 : HI) (J0 : HJ), Sm wi_X3_addSeen_25 I0 I → Sm wj_X3_addSeen_25 J0 J → Fo wi_X3_addSeen_25 wj_X3_addSeen_25 I0 J0 (F_X3_addSeen_25 l1 l2 l3 I J) from key I J Sm.rf Sm.rf
  intro I0 J0 hI hJ
  unfold F_X3_addSeen_25
  refine Fo.ite ?_ ?_
  · refine Fo.gbx ?_
    refine Fo.lui rfl hI (fun I5 hI5 => ?_)
    refine Fo.gbx ?_
    refine Fo.lui rfl hI5 (fun I6 hI6 => ?_)
    refine Fo.gbx ?_
    refine Fo.luj rfl hJ (fun J7 hJ7 => ?_)
    refine Fo.lui rfl hI6 (fun I8 hI8 => ?_)
    exact Fo.some hI8 hJ7
  · exact Fo.some hI hJ
theorem fr_X11_seen (l1 : Int32) (l2 : Int32) (l3 : Int64) (I : HI) (J : HJ) : Fo wi_X11_seen wj_X11_seen I J (F_X11_seen l1 l2 l3 I J) := by
  suffices key : ∀ (I0 : HI) (J0 : HJ), Sm wi_X11_seen I0 I → Sm wj_X11_seen J0 J → Fo wi_X11_seen wj_X11_seen I0 J0 (F_X11_seen l1 l2 l3 I J) from key I J Sm.rf Sm.rf
  intro I0 J0 hI hJ
  unfold F_X11_seen
  refine Fo.callp (fun r1 => ?_)
  refine Fo.ite ?_ ?_
  · exact Fo.some hI hJ
  · refine Fo.callp (fun r2 => ?_)
    refine Fo.ite ?_ ?_
    · exact Fo.some hI hJ
    · refine Fo.call (fr_X3_addSeen_25 l1 l2 l3 I J) (by decide) (by decide) hI hJ (fun r3 I4 J5 hI4 hJ5 => ?_)
      refine Fo.ite ?_ ?_
      · exact Fo.some hI4 hJ5
      · exact Fo.some hI4 hJ5
theorem fr_X11_forget  (I : HI) (J : HJ) : Fo wi_X11_forget wj_X11_forget I J (F_X11_forget  I J) := by
  suffices key : ∀ (I0 : HI) (J0 : HJ), Sm wi_X11_forget I0 I → Sm wj_X11_forget J0 J → Fo wi_X11_forget wj_X11_forget I0 J0 (F_X11_forget  I J) from key I J Sm.rf Sm.rf
  intro I0 J0 hI hJ
  unfold F_X11_forget
  refine Fo.ite ?_ ?_
  · exact Fo.some hI hJ
  · refine Fo.lui rfl hI (fun I2 hI2 => ?_)
    exact Fo.some hI2 hJ
theorem fr_X7_firstAgainst_L2 (I0 : HI) (J0 : HJ) (l1 : Int32) : ∀ (K : Nat) (l2 : Int32) (I : HI) (J : HJ) (hI : Sm wi_X7_firstAgainst I0 I) (hJ : Sm wj_X7_firstAgainst J0 J), Fo wi_X7_firstAgainst wj_X7_firstAgainst I0 J0 (F_X7_firstAgainst_L2 l1 K l2 I J) := by
  intro K
  induction K with
  | zero => intro l2 I J hI hJ; exact Fo.none
  | succ K ih =>
    intro l2 I J hI hJ
    rw [F_X7_firstAgainst_L2]
    refine Fo.ite ?_ ?_
    · exact Fo.some hI hJ
    · refine Fo.gbx ?_
      refine Fo.gbx ?_
      refine Fo.call (fr_X7_glowWith l1 (I x_notes_seenHigh (Int32.toNatClampNeg l2)) (I x_notes_seenLow (Int32.toNatClampNeg l2)) I J) (by decide) (by decide) hI hJ (fun r1 I2 J3 hI2 hJ3 => ?_)
      refine Fo.gbx ?_
      refine Fo.ite ?_ ?_
      · exact ih _ _ _ hI2 hJ3
      · exact Fo.some hI2 hJ3
theorem fr_X7_firstAgainst (l1 : Int32) (I : HI) (J : HJ) : Fo wi_X7_firstAgainst wj_X7_firstAgainst I J (F_X7_firstAgainst l1 I J) := by
  suffices key : ∀ (I0 : HI) (J0 : HJ), Sm wi_X7_firstAgainst I0 I → Sm wj_X7_firstAgainst J0 J → Fo wi_X7_firstAgainst wj_X7_firstAgainst I0 J0 (F_X7_firstAgainst l1 I J) from key I J Sm.rf Sm.rf
  intro I0 J0 hI hJ
  unfold F_X7_firstAgainst
  refine fr_X7_firstAgainst_L2 _ _ _ bgf _ _ _ hI hJ
theorem fr_X7_gather_L12 (I0 : HI) (J0 : HJ) (l1 : Int32) : ∀ (K : Nat) (l2 : Int32) (I : HI) (J : HJ) (hI : Sm wi_X7_gather I0 I) (hJ : Sm wj_X7_gather J0 J), Fo wi_X7_gather wj_X7_gather I0 J0 (F_X7_gather_L12 l1 K l2 I J) := by
  intro K
  induction K with
  | zero => intro l2 I J hI hJ; exact Fo.none
  | succ K ih =>
    intro l2 I J hI hJ
    rw [F_X7_gather_L12]
    refine Fo.ite ?_ ?_
    · exact Fo.some hI hJ
    · refine Fo.ite ?_ ?_
      · exact Fo.some hI hJ
      · refine Fo.call (fr_X7_firstAgainst l2 I J) (by decide) (by decide) hI hJ (fun r6 I7 J8 hI7 hJ8 => ?_)
        refine Fo.jn (fun j => ∀ (I9 : HI), Sm wi_X7_gather I0 I9 → Fo wi_X7_gather wj_X7_gather I0 J0 (j I9)) (fun I9 hI9 => ?_) (fun j10 hj10 => ?_)
        · exact ih _ _ _ hI9 hJ8
        · refine Fo.ite ?_ ?_
          · refine Fo.gbx ?_
            refine Fo.lui rfl hI7 (fun I11 hI11 => ?_)
            refine Fo.lui rfl hI11 (fun I12 hI12 => ?_)
            exact hj10 _ hI12
          · exact hj10 _ hI7
theorem fr_X7_gather  (I : HI) (J : HJ) : Fo wi_X7_gather wj_X7_gather I J (F_X7_gather  I J) := by
  suffices key : ∀ (I0 : HI) (J0 : HJ), Sm wi_X7_gather I0 I → Sm wj_X7_gather J0 J → Fo wi_X7_gather wj_X7_gather I0 J0 (F_X7_gather  I J) from key I J Sm.rf Sm.rf
  intro I0 J0 hI hJ
  unfold F_X7_gather
  refine Fo.lui rfl hI (fun I4 hI4 => ?_)
  refine Fo.callp (fun r5 => ?_)
  refine fr_X7_gather_L12 _ _ _ bgf _ _ _ hI4 hJ
theorem fr_X11_which_L16 (I0 : HI) (J0 : HJ) (kx56 : HI → HJ → Option (Int32 × HI × HJ)) (hkx56 : ∀ (I1 : HI) (J1 : HJ), Sm wi_X11_which I0 I1 → Sm wj_X11_which J0 J1 → Fo wi_X11_which wj_X11_which I0 J0 (kx56 I1 J1)) : ∀ (K : Nat) (l1 : Int32) (I : HI) (J : HJ) (hI : Sm wi_X11_which I0 I) (hJ : Sm wj_X11_which J0 J), Fo wi_X11_which wj_X11_which I0 J0 (F_X11_which_L16 kx56 K l1 I J) := by
  intro K
  induction K with
  | zero => intro l1 I J hI hJ; exact Fo.none
  | succ K ih =>
    intro l1 I J hI hJ
    rw [F_X11_which_L16]
    refine Fo.ite ?_ ?_
    · exact hkx56 _ _ hI hJ
    · refine Fo.ite ?_ ?_
      · exact hkx56 _ _ hI hJ
      · refine Fo.gbx ?_
        refine Fo.call (fr_X10_add (Int32.toInt64 (I x_suspects_agrees (Int32.toNatClampNeg l1))) I J) (by decide) (by decide) hI hJ (fun _ I5 J6 hI5 hJ6 => ?_)
        exact ih _ _ _ hI5 hJ6
theorem fr_X11_which  (I : HI) (J : HJ) : Fo wi_X11_which wj_X11_which I J (F_X11_which  I J) := by
  suffices key : ∀ (I0 : HI) (J0 : HJ), Sm wi_X11_which I0 I → Sm wj_X11_which J0 J → Fo wi_X11_which wj_X11_which I0 J0 (F_X11_which  I J) from key I J Sm.rf Sm.rf
  intro I0 J0 hI hJ
  unfold F_X11_which
  refine Fo.call (fr_X7_gather I J) (by decide) (by decide) hI hJ (fun _ I1 J2 hI1 hJ2 => ?_)
  refine Fo.call (fr_X10_clear I1 J2) (by decide) (by decide) hI1 hJ2 (fun _ I3 J4 hI3 hJ4 => ?_)
  refine fr_X11_which_L16 _ _ _ (fun I7 J8 hI7 hJ8 => ?_) bgf _ _ _ hI3 hJ4
  exact Fo.some hI7 hJ8
theorem fr_X11_judge (l1 : Int32) (I : HI) (J : HJ) : Fo wi_X11_judge wj_X11_judge I J (F_X11_judge l1 I J) := by
  suffices key : ∀ (I0 : HI) (J0 : HJ), Sm wi_X11_judge I0 I → Sm wj_X11_judge J0 J → Fo wi_X11_judge wj_X11_judge I0 J0 (F_X11_judge l1 I J) from key I J Sm.rf Sm.rf
  intro I0 J0 hI hJ
  unfold F_X11_judge
  refine Fo.callp (fun r1 => ?_)
  refine Fo.ite ?_ ?_
  · exact Fo.some hI hJ
  · refine Fo.call (fr_X7_firstAgainst l1 I J) (by decide) (by decide) hI hJ (fun r2 I3 J4 hI3 hJ4 => ?_)
    exact Fo.some hI3 hJ4
theorem fr_X7_joinGroup_L2 (I0 : HI) (J0 : HJ) (l1 : Int64) (I : HI) (J : HJ) (kx21 : Int32 → Option (Int32 × HI × HJ)) (kx44 : Option (Int32 × HI × HJ)) (hI : Sm wi_X7_joinGroup I0 I) (hJ : Sm wj_X7_joinGroup J0 J) (hkx21 : ∀ (y3 : Int32), Fo wi_X7_joinGroup wj_X7_joinGroup I0 J0 (kx21 y3)) (hkx44 : Fo wi_X7_joinGroup wj_X7_joinGroup I0 J0 (kx44)) : ∀ (K : Nat) (l3 : Int32), Fo wi_X7_joinGroup wj_X7_joinGroup I0 J0 (F_X7_joinGroup_L2 l1 I J kx21 kx44 K l3) := by
  intro K
  induction K with
  | zero => intro l3; exact Fo.none
  | succ K ih =>
    intro l3
    rw [F_X7_joinGroup_L2]
    refine Fo.ite ?_ ?_
    · exact hkx44
    · refine Fo.gbx ?_
      refine Fo.ite ?_ ?_
      · exact hkx21 _
      · exact ih _
theorem fr_X7_joinGroup (l1 : Int64) (I : HI) (J : HJ) : Fo wi_X7_joinGroup wj_X7_joinGroup I J (F_X7_joinGroup l1 I J) := by
  suffices key : ∀ (I0 : HI) (J0 : HJ), Sm wi_X7_joinGroup I0 I → Sm wj_X7_joinGroup J0 J → Fo wi_X7_joinGroup wj_X7_joinGroup I0 J0 (F_X7_joinGroup l1 I J) from key I J Sm.rf Sm.rf
  intro I0 J0 hI hJ
  unfold F_X7_joinGroup
  refine fr_X7_joinGroup_L2 _ _ _ _ _ _ _ hI hJ (fun y5 => ?_) ?_ bgf _
  · refine Fo.gbx ?_
    refine Fo.gbx ?_
    refine Fo.lui rfl hI (fun I6 hI6 => ?_)
    refine Fo.gbx ?_
    exact Fo.some hI6 hJ
  · refine Fo.ite ?_ ?_
    · exact Fo.some hI hJ
    · refine Fo.gbx ?_
      refine Fo.luj rfl hJ (fun J7 hJ7 => ?_)
      refine Fo.gbx ?_
      refine Fo.lui rfl hI (fun I8 hI8 => ?_)
      refine Fo.lui rfl hI8 (fun I9 hI9 => ?_)
      exact Fo.some hI9 hJ7
theorem fr_X7_leftAtWorst_L10 (I0 : HI) (J0 : HJ) (l1 : Int32) (l2 : Int32) : ∀ (K : Nat) (l3 : Int32) (l4 : Int32) (I : HI) (J : HJ) (hI : Sm wi_X7_leftAtWorst I0 I) (hJ : Sm wj_X7_leftAtWorst J0 J), Fo wi_X7_leftAtWorst wj_X7_leftAtWorst I0 J0 (F_X7_leftAtWorst_L10 l1 l2 K l3 l4 I J) := by
  intro K
  induction K with
  | zero => intro l3 l4 I J hI hJ; exact Fo.none
  | succ K ih =>
    intro l3 l4 I J hI hJ
    rw [F_X7_leftAtWorst_L10]
    refine Fo.ite ?_ ?_
    · exact Fo.some hI hJ
    · refine Fo.ite ?_ ?_
      · exact Fo.some hI hJ
      · refine Fo.gbx ?_
        refine Fo.call (fr_X7_glowBy (I x_suspects_agrees (Int32.toNatClampNeg l4)) l1 I J) (by decide) (by decide) hI hJ (fun r4 I5 J6 hI5 hJ6 => ?_)
        refine Fo.call (fr_X7_joinGroup r4 I5 J6) (by decide) (by decide) hI5 hJ6 (fun r7 I8 J9 hI8 hJ9 => ?_)
        refine Fo.lbv (fun x10 => ?_)
        exact ih _ _ _ _ hI8 hJ9
theorem fr_X7_leftAtWorst (l1 : Int32) (l2 : Int32) (I : HI) (J : HJ) : Fo wi_X7_leftAtWorst wj_X7_leftAtWorst I J (F_X7_leftAtWorst l1 l2 I J) := by
  suffices key : ∀ (I0 : HI) (J0 : HJ), Sm wi_X7_leftAtWorst I0 I → Sm wj_X7_leftAtWorst J0 J → Fo wi_X7_leftAtWorst wj_X7_leftAtWorst I0 J0 (F_X7_leftAtWorst l1 l2 I J) from key I J Sm.rf Sm.rf
  intro I0 J0 hI hJ
  unfold F_X7_leftAtWorst
  refine Fo.lui rfl hI (fun I3 hI3 => ?_)
  refine fr_X7_leftAtWorst_L10 _ _ _ _ bgf _ _ _ _ hI3 hJ
theorem fr_X11_next_L44 (I0 : HI) (J0 : HJ) (kx88 : Int32 → Int32 → HI → HJ → Option (Int32 × HI × HJ)) (hkx88 : ∀ (y1 : Int32) (y2 : Int32) (I1 : HI) (J1 : HJ), Sm wi_X11_next I0 I1 → Sm wj_X11_next J0 J1 → Fo wi_X11_next wj_X11_next I0 J0 (kx88 y1 y2 I1 J1)) : ∀ (K : Nat) (l1 : Int32) (l2 : Int32) (l3 : Int32) (I : HI) (J : HJ) (hI : Sm wi_X11_next I0 I) (hJ : Sm wj_X11_next J0 J), Fo wi_X11_next wj_X11_next I0 J0 (F_X11_next_L44 kx88 K l1 l2 l3 I J) := by
  intro K
  induction K with
  | zero => intro l1 l2 l3 I J hI hJ; exact Fo.none
  | succ K ih =>
    intro l1 l2 l3 I J hI hJ
    rw [F_X11_next_L44]
    refine Fo.ite ?_ ?_
    · exact hkx88 _ _ _ _ hI hJ
    · refine Fo.ite ?_ ?_
      · exact hkx88 _ _ _ _ hI hJ
      · refine Fo.call (fr_X7_leftAtWorst l3 l1 I J) (by decide) (by decide) hI hJ (fun r8 I9 J10 hI9 hJ10 => ?_)
        refine Fo.jn (fun j => ∀ (y11 : Int32) (y12 : Int32), Fo wi_X11_next wj_X11_next I0 J0 (j y11 y12)) (fun y11 y12 => ?_) (fun j13 hj13 => ?_)
        · exact ih _ _ _ _ _ hI9 hJ10
        · refine Fo.ite ?_ ?_
          · exact hj13 _ _
          · exact hj13 _ _
theorem fr_X11_next  (I : HI) (J : HJ) : Fo wi_X11_next wj_X11_next I J (F_X11_next  I J) := by
  suffices key : ∀ (I0 : HI) (J0 : HJ), Sm wi_X11_next I0 I → Sm wj_X11_next J0 J → Fo wi_X11_next wj_X11_next I0 J0 (F_X11_next  I J) from key I J Sm.rf Sm.rf
  intro I0 J0 hI hJ
  unfold F_X11_next
  refine Fo.call (fr_X11_openTable I J) (by decide) (by decide) hI hJ (fun r2 I3 J4 hI3 hJ4 => ?_)
  refine Fo.ite ?_ ?_
  · exact Fo.some hI3 hJ4
  · refine Fo.call (fr_X7_gather I3 J4) (by decide) (by decide) hI3 hJ4 (fun _ I5 J6 hI5 hJ6 => ?_)
    refine Fo.ite ?_ ?_
    · exact Fo.some hI5 hJ6
    · refine Fo.lbv (fun x7 => ?_)
      refine fr_X11_next_L44 _ _ _ (fun y14 y15 I16 J17 hI16 hJ17 => ?_) bgf _ _ _ _ _ hI5 hJ6
      refine Fo.call (fr_X10_clear I16 J17) (by decide) (by decide) hI16 hJ17 (fun _ I18 J19 hI18 hJ19 => ?_)
      refine Fo.call (fr_X10_add (Int32.toInt64 y15) I18 J19) (by decide) (by decide) hI18 hJ19 (fun _ I20 J21 hI20 hJ21 => ?_)
      exact Fo.some hI20 hJ21
theorem fr_X5_addTest (l1 : Int32) (l2 : Int32) (I : HI) (J : HJ) : Fo wi_X5_addTest wj_X5_addTest I J (F_X5_addTest l1 l2 I J) := by
  suffices key : ∀ (I0 : HI) (J0 : HJ), Sm wi_X5_addTest I0 I → Sm wj_X5_addTest J0 J → Fo wi_X5_addTest wj_X5_addTest I0 J0 (F_X5_addTest l1 l2 I J) from key I J Sm.rf Sm.rf
  intro I0 J0 hI hJ
  unfold F_X5_addTest
  refine Fo.ite ?_ ?_
  · refine Fo.gbx ?_
    refine Fo.lui rfl hI (fun I4 hI4 => ?_)
    refine Fo.gbx ?_
    refine Fo.lui rfl hI4 (fun I5 hI5 => ?_)
    refine Fo.lui rfl hI5 (fun I6 hI6 => ?_)
    exact Fo.some hI6 hJ
  · exact Fo.some hI hJ
theorem fr_X11_test (l1 : Int32) (l2 : Int32) (I : HI) (J : HJ) : Fo wi_X11_test wj_X11_test I J (F_X11_test l1 l2 I J) := by
  suffices key : ∀ (I0 : HI) (J0 : HJ), Sm wi_X11_test I0 I → Sm wj_X11_test J0 J → Fo wi_X11_test wj_X11_test I0 J0 (F_X11_test l1 l2 I J) from key I J Sm.rf Sm.rf
  intro I0 J0 hI hJ
  unfold F_X11_test
  refine Fo.callp (fun r1 => ?_)
  refine Fo.ite ?_ ?_
  · exact Fo.some hI hJ
  · refine Fo.call (fr_X5_addTest l1 l2 I J) (by decide) (by decide) hI hJ (fun r2 I3 J4 hI3 hJ4 => ?_)
    refine Fo.ite ?_ ?_
    · exact Fo.some hI3 hJ4
    · exact Fo.some hI3 hJ4
theorem fr_X5_findGroup_L10 (I0 : HI) (J0 : HJ) (l1 : Int32) (l2 : Int32) (kx52 : HI → HJ → Option (Int32 × HI × HJ)) (hkx52 : ∀ (I1 : HI) (J1 : HJ), Sm wi_X5_findGroup I0 I1 → Sm wj_X5_findGroup J0 J1 → Fo wi_X5_findGroup wj_X5_findGroup I0 J0 (kx52 I1 J1)) : ∀ (K : Nat) (l3 : Int32) (I : HI) (J : HJ) (hI : Sm wi_X5_findGroup I0 I) (hJ : Sm wj_X5_findGroup J0 J), Fo wi_X5_findGroup wj_X5_findGroup I0 J0 (F_X5_findGroup_L10 l1 l2 kx52 K l3 I J) := by
  intro K
  induction K with
  | zero => intro l3 I J hI hJ; exact Fo.none
  | succ K ih =>
    intro l3 I J hI hJ
    rw [F_X5_findGroup_L10]
    refine Fo.ite ?_ ?_
    · exact hkx52 _ _ hI hJ
    · refine Fo.gbx ?_
      refine Fo.gbx ?_
      refine Fo.call (fr_X7_glowWith l1 (I x_plan_testHigh (Int32.toNatClampNeg l3)) (I x_plan_testLow (Int32.toNatClampNeg l3)) I J) (by decide) (by decide) hI hJ (fun r5 I6 J7 hI6 hJ7 => ?_)
      refine Fo.gbx ?_
      refine Fo.luj rfl hJ7 (fun J8 hJ8 => ?_)
      exact ih _ _ _ hI6 hJ8
theorem fr_X5_findGroup_L54 (I0 : HI) (J0 : HJ) (l2 : Int32) (I : HI) (J : HJ) (kx82 : Option (Int32 × HI × HJ)) (hI : Sm wi_X5_findGroup I0 I) (hJ : Sm wj_X5_findGroup J0 J) (hkx82 : Fo wi_X5_findGroup wj_X5_findGroup I0 J0 (kx82)) : ∀ (K : Nat) (l3 : Int32), Fo wi_X5_findGroup wj_X5_findGroup I0 J0 (F_X5_findGroup_L54 l2 I J kx82 K l3) := by
  intro K
  induction K with
  | zero => intro l3; exact Fo.none
  | succ K ih =>
    intro l3
    rw [F_X5_findGroup_L54]
    refine Fo.ite ?_ ?_
    · exact hkx82
    · refine Fo.callp (fun r11 => ?_)
      refine Fo.ite ?_ ?_
      · exact ih _
      · exact Fo.some hI hJ
theorem fr_X5_findGroup (l1 : Int32) (I : HI) (J : HJ) : Fo wi_X5_findGroup wj_X5_findGroup I J (F_X5_findGroup l1 I J) := by
  suffices key : ∀ (I0 : HI) (J0 : HJ), Sm wi_X5_findGroup I0 I → Sm wj_X5_findGroup J0 J → Fo wi_X5_findGroup wj_X5_findGroup I0 J0 (F_X5_findGroup l1 I J) from key I J Sm.rf Sm.rf
  intro I0 J0 hI hJ
  unfold F_X5_findGroup
  refine Fo.lbv (fun x4 => ?_)
  refine fr_X5_findGroup_L10 _ _ _ _ _ (fun I9 J10 hI9 hJ10 => ?_) bgf _ _ _ hI hJ
  refine fr_X5_findGroup_L54 _ _ _ _ _ _ hI9 hJ10 ?_ bgf _
  refine Fo.lui rfl hI9 (fun I12 hI12 => ?_)
  exact Fo.some hI12 hJ10
theorem fr_X5_partCells_L83 (I0 : HI) (J0 : HJ) (l1 : Int32) (l2 : Int32) (l3 : Int32) (l4 : Int32) (l5 : Int32) (I : HI) (J : HJ) (kx109 : Int32 → Option (Unit × HI × HJ)) (hI : Sm wi_X5_partCells I0 I) (hJ : Sm wj_X5_partCells J0 J) (hkx109 : ∀ (y6 : Int32), Fo wi_X5_partCells wj_X5_partCells I0 J0 (kx109 y6)) : ∀ (K : Nat) (l6 : Int32), Fo wi_X5_partCells wj_X5_partCells I0 J0 (F_X5_partCells_L83 l1 l2 l3 l4 l5 I J kx109 K l6) := by
  intro K
  induction K with
  | zero => intro l6; exact Fo.none
  | succ K ih =>
    intro l6
    rw [F_X5_partCells_L83]
    refine Fo.ite ?_ ?_
    · exact hkx109 _
    · refine Fo.callp (fun r11 => ?_)
      refine Fo.ite ?_ ?_
      · exact ih _
      · exact hkx109 _
theorem fr_X5_partCells_L53 (I0 : HI) (J0 : HJ) (l1 : Int32) (l2 : Int32) (l3 : Int32) (l4 : Int32) (J : HJ) (hJ : Sm wj_X5_partCells J0 J) : ∀ (K : Nat) (l5 : Int32) (I : HI) (hI : Sm wi_X5_partCells I0 I), Fo wi_X5_partCells wj_X5_partCells I0 J0 (F_X5_partCells_L53 l1 l2 l3 l4 J K l5 I) := by
  intro K
  induction K with
  | zero => intro l5 I hI; exact Fo.none
  | succ K ih =>
    intro l5 I hI
    rw [F_X5_partCells_L53]
    refine Fo.ite ?_ ?_
    · exact Fo.some hI hJ
    · refine Fo.jn (fun j => ∀ (y9 : Int32), Fo wi_X5_partCells wj_X5_partCells I0 J0 (j y9)) (fun y9 => ?_) (fun j10 hj10 => ?_)
      · refine fr_X5_partCells_L83 _ _ _ _ _ _ _ _ _ _ hI hJ (fun y12 => ?_) bgf _
        refine Fo.callp (fun r13 => ?_)
        refine Fo.gbx ?_
        refine Fo.lui rfl hI (fun I14 hI14 => ?_)
        refine Fo.gbx ?_
        refine Fo.jn (fun j => ∀ (y15 : Int32) (y16 : Int32) (y17 : Int32), Fo wi_X5_partCells wj_X5_partCells I0 J0 (j y15 y16 y17)) (fun y15 y16 y17 => ?_) (fun j18 hj18 => ?_)
        · refine Fo.gbx ?_
          refine Fo.lui rfl hI14 (fun I19 hI19 => ?_)
          exact ih _ _ hI19
        · refine Fo.ite ?_ ?_
          · exact hj18 _ _ _
          · exact hj18 _ _ _
      · refine Fo.ite ?_ ?_
        · refine Fo.gbx ?_
          exact hj10 _
        · exact hj10 _
theorem fr_X5_partCells (l1 : Int32) (I : HI) (J : HJ) : Fo wi_X5_partCells wj_X5_partCells I J (F_X5_partCells l1 I J) := by
  suffices key : ∀ (I0 : HI) (J0 : HJ), Sm wi_X5_partCells I0 I → Sm wj_X5_partCells J0 J → Fo wi_X5_partCells wj_X5_partCells I0 J0 (F_X5_partCells l1 I J) from key I J Sm.rf Sm.rf
  intro I0 J0 hI hJ
  unfold F_X5_partCells
  refine Fo.callp (fun r4 => ?_)
  refine Fo.callp (fun r5 => ?_)
  refine Fo.gbx ?_
  refine Fo.jn (fun j => ∀ (y6 : Int32), Fo wi_X5_partCells wj_X5_partCells I0 J0 (j y6)) (fun y6 => ?_) (fun j7 hj7 => ?_)
  · refine Fo.gbx ?_
    refine Fo.lui rfl hI (fun I8 hI8 => ?_)
    refine fr_X5_partCells_L53 _ _ _ _ _ _ _ hJ bgf _ _ hI8
  · refine Fo.ite ?_ ?_
    · exact hj7 _
    · exact hj7 _
theorem fr_J7_fill_53178_57_L5 (I0 : HI) (J0 : HJ) (l1 : Int32) (l3 : Int32) (J : HJ) (hJ : Sm wj_J7_fill_53178_57 J0 J) : ∀ (K : Nat) (l2 : Int32) (I : HI) (hI : Sm wi_J7_fill_53178_57 I0 I), Fo wi_J7_fill_53178_57 wj_J7_fill_53178_57 I0 J0 (F_J7_fill_53178_57_L5 l1 l3 J K l2 I) := by
  intro K
  induction K with
  | zero => intro l2 I hI; exact Fo.none
  | succ K ih =>
    intro l2 I hI
    rw [F_J7_fill_53178_57_L5]
    refine Fo.ite ?_ ?_
    · exact Fo.some hI hJ
    · refine Fo.gbx ?_
      refine Fo.lui rfl hI (fun I2 hI2 => ?_)
      exact ih _ _ hI2
theorem fr_J7_fill_53178_57 (l1 : Int32) (I : HI) (J : HJ) : Fo wi_J7_fill_53178_57 wj_J7_fill_53178_57 I J (F_J7_fill_53178_57 l1 I J) := by
  suffices key : ∀ (I0 : HI) (J0 : HJ), Sm wi_J7_fill_53178_57 I0 I → Sm wj_J7_fill_53178_57 J0 J → Fo wi_J7_fill_53178_57 wj_J7_fill_53178_57 I0 J0 (F_J7_fill_53178_57 l1 I J) from key I J Sm.rf Sm.rf
  intro I0 J0 hI hJ
  unfold F_J7_fill_53178_57
  refine fr_J7_fill_53178_57_L5 _ _ _ _ _ hJ bgf _ _ hI
theorem fr_J7_fill_53178_58_L5 (I0 : HI) (J0 : HJ) (l1 : Int32) (l3 : Int32) (J : HJ) (hJ : Sm wj_J7_fill_53178_58 J0 J) : ∀ (K : Nat) (l2 : Int32) (I : HI) (hI : Sm wi_J7_fill_53178_58 I0 I), Fo wi_J7_fill_53178_58 wj_J7_fill_53178_58 I0 J0 (F_J7_fill_53178_58_L5 l1 l3 J K l2 I) := by
  intro K
  induction K with
  | zero => intro l2 I hI; exact Fo.none
  | succ K ih =>
    intro l2 I hI
    rw [F_J7_fill_53178_58_L5]
    refine Fo.ite ?_ ?_
    · exact Fo.some hI hJ
    · refine Fo.gbx ?_
      refine Fo.lui rfl hI (fun I2 hI2 => ?_)
      exact ih _ _ hI2
theorem fr_J7_fill_53178_58 (l1 : Int32) (I : HI) (J : HJ) : Fo wi_J7_fill_53178_58 wj_J7_fill_53178_58 I J (F_J7_fill_53178_58 l1 I J) := by
  suffices key : ∀ (I0 : HI) (J0 : HJ), Sm wi_J7_fill_53178_58 I0 I → Sm wj_J7_fill_53178_58 J0 J → Fo wi_J7_fill_53178_58 wj_J7_fill_53178_58 I0 J0 (F_J7_fill_53178_58 l1 I J) from key I J Sm.rf Sm.rf
  intro I0 J0 hI hJ
  unfold F_J7_fill_53178_58
  refine fr_J7_fill_53178_58_L5 _ _ _ _ _ hJ bgf _ _ hI
theorem fr_X5_tryTest_L10 (I0 : HI) (J0 : HJ) (l1 : Int32) (l2 : Int32) (J : HJ) (kx57 : HI → Option (Unit × HI × HJ)) (hJ : Sm wj_X5_tryTest J0 J) (hkx57 : ∀ (I1 : HI), Sm wi_X5_tryTest I0 I1 → Fo wi_X5_tryTest wj_X5_tryTest I0 J0 (kx57 I1)) : ∀ (K : Nat) (l3 : Int32) (I : HI) (hI : Sm wi_X5_tryTest I0 I), Fo wi_X5_tryTest wj_X5_tryTest I0 J0 (F_X5_tryTest_L10 l1 l2 J kx57 K l3 I) := by
  intro K
  induction K with
  | zero => intro l3 I hI; exact Fo.none
  | succ K ih =>
    intro l3 I hI
    rw [F_X5_tryTest_L10]
    refine Fo.ite ?_ ?_
    · exact hkx57 _ hI
    · refine Fo.gbx ?_
      refine Fo.lbv (fun x6 => ?_)
      refine Fo.gbx ?_
      refine Fo.callp (fun r7 => ?_)
      refine Fo.gbx ?_
      refine Fo.lui rfl hI (fun I8 hI8 => ?_)
      exact ih _ _ hI8
theorem fr_X5_tryTest_L59 (I0 : HI) (J0 : HJ) (l1 : Int32) (J : HJ) (hJ : Sm wj_X5_tryTest J0 J) : ∀ (K : Nat) (l3 : Int32) (I : HI) (hI : Sm wi_X5_tryTest I0 I), Fo wi_X5_tryTest wj_X5_tryTest I0 J0 (F_X5_tryTest_L59 l1 J K l3 I) := by
  intro K
  induction K with
  | zero => intro l3 I hI; exact Fo.none
  | succ K ih =>
    intro l3 I hI
    rw [F_X5_tryTest_L59]
    refine Fo.ite ?_ ?_
    · exact Fo.some hI hJ
    · refine Fo.gbx ?_
      refine Fo.jn (fun j => ∀ (I10 : HI), Sm wi_X5_tryTest I0 I10 → Fo wi_X5_tryTest wj_X5_tryTest I0 J0 (j I10)) (fun I10 hI10 => ?_) (fun j11 hj11 => ?_)
      · exact ih _ _ hI10
      · refine Fo.ite ?_ ?_
        · exact hj11 _ hI
        · refine Fo.gbx ?_
          refine Fo.gbx ?_
          refine Fo.gbx ?_
          refine Fo.lui rfl hI (fun I12 hI12 => ?_)
          exact hj11 _ hI12
theorem fr_X5_tryTest (l1 : Int32) (l2 : Int32) (I : HI) (J : HJ) : Fo wi_X5_tryTest wj_X5_tryTest I J (F_X5_tryTest l1 l2 I J) := by
  suffices key : ∀ (I0 : HI) (J0 : HJ), Sm wi_X5_tryTest I0 I → Sm wj_X5_tryTest J0 J → Fo wi_X5_tryTest wj_X5_tryTest I0 J0 (F_X5_tryTest l1 l2 I J) from key I J Sm.rf Sm.rf
  intro I0 J0 hI hJ
  unfold F_X5_tryTest
  refine Fo.call (fr_J7_fill_53178_58 (0 : Int32) I J) (by decide) (by decide) hI hJ (fun _ I4 J5 hI4 hJ5 => ?_)
  refine fr_X5_tryTest_L10 _ _ _ _ _ _ hJ5 (fun I9 hI9 => ?_) bgf _ _ hI4
  refine fr_X5_tryTest_L59 _ _ _ _ hJ5 bgf _ _ hI9
theorem fr_X5_reckonDepths_L16 (I0 : HI) (J0 : HJ) (l1 : Int32) (l2 : Int32) (J : HJ) (kx47 : HI → Option (Unit × HI × HJ)) (hJ : Sm wj_X5_reckonDepths J0 J) (hkx47 : ∀ (I1 : HI), Sm wi_X5_reckonDepths I0 I1 → Fo wi_X5_reckonDepths wj_X5_reckonDepths I0 J0 (kx47 I1)) : ∀ (K : Nat) (l3 : Int32) (I : HI) (hI : Sm wi_X5_reckonDepths I0 I), Fo wi_X5_reckonDepths wj_X5_reckonDepths I0 J0 (F_X5_reckonDepths_L16 l1 l2 J kx47 K l3 I) := by
  intro K
  induction K with
  | zero => intro l3 I hI; exact Fo.none
  | succ K ih =>
    intro l3 I hI
    rw [F_X5_reckonDepths_L16]
    refine Fo.ite ?_ ?_
    · exact hkx47 _ hI
    · refine Fo.gbx ?_
      refine Fo.gbx ?_
      refine Fo.gbx ?_
      refine Fo.lui rfl hI (fun I6 hI6 => ?_)
      exact ih _ _ hI6
theorem fr_X5_reckonDepths_L49 (I0 : HI) (J0 : HJ) (l1 : Int32) (l2 : Int32) (J : HJ) (kx87 : HI → Option (Unit × HI × HJ)) (hJ : Sm wj_X5_reckonDepths J0 J) (hkx87 : ∀ (I1 : HI), Sm wi_X5_reckonDepths I0 I1 → Fo wi_X5_reckonDepths wj_X5_reckonDepths I0 J0 (kx87 I1)) : ∀ (K : Nat) (l3 : Int32) (I : HI) (hI : Sm wi_X5_reckonDepths I0 I), Fo wi_X5_reckonDepths wj_X5_reckonDepths I0 J0 (F_X5_reckonDepths_L49 l1 l2 J kx87 K l3 I) := by
  intro K
  induction K with
  | zero => intro l3 I hI; exact Fo.none
  | succ K ih =>
    intro l3 I hI
    rw [F_X5_reckonDepths_L49]
    refine Fo.ite ?_ ?_
    · exact hkx87 _ hI
    · refine Fo.gbx ?_
      refine Fo.jn (fun j => ∀ (y8 : Int32) (y9 : Int32), Fo wi_X5_reckonDepths wj_X5_reckonDepths I0 J0 (j y8 y9)) (fun y8 y9 => ?_) (fun j10 hj10 => ?_)
      · refine Fo.gbx ?_
        refine Fo.lui rfl hI (fun I11 hI11 => ?_)
        exact ih _ _ hI11
      · refine Fo.ite ?_ ?_
        · exact hj10 _ _
        · exact hj10 _ _
theorem fr_X5_reckonDepths_L89 (I0 : HI) (J0 : HJ) (l1 : Int32) (l2 : Int32) : ∀ (K : Nat) (l3 : Int32) (I : HI) (J : HJ) (hI : Sm wi_X5_reckonDepths I0 I) (hJ : Sm wj_X5_reckonDepths J0 J), Fo wi_X5_reckonDepths wj_X5_reckonDepths I0 J0 (F_X5_reckonDepths_L89 l1 l2 K l3 I J) := by
  intro K
  induction K with
  | zero => intro l3 I J hI hJ; exact Fo.none
  | succ K ih =>
    intro l3 I J hI hJ
    rw [F_X5_reckonDepths_L89]
    refine Fo.ite ?_ ?_
    · exact Fo.some hI hJ
    · refine Fo.gbx ?_
      refine Fo.ite ?_ ?_
      · exact Fo.some hI hJ
      · refine Fo.jn (fun j => ∀ (I13 : HI) (J14 : HJ), Sm wi_X5_reckonDepths I0 I13 → Sm wj_X5_reckonDepths J0 J14 → Fo wi_X5_reckonDepths wj_X5_reckonDepths I0 J0 (j I13 J14)) (fun I13 J14 hI13 hJ14 => ?_) (fun j15 hj15 => ?_)
        · exact ih _ _ _ hI13 hJ14
        · refine Fo.ite ?_ ?_
          · refine Fo.call (fr_X5_tryTest l2 (l1 ||| (oshl (1 : Int32) l3)) I J) (by decide) (by decide) hI hJ (fun _ I16 J17 hI16 hJ17 => ?_)
            exact hj15 _ _ hI16 hJ17
          · exact hj15 _ _ hI hJ
theorem fr_X5_reckonDepths (l1 : Int32) (I : HI) (J : HJ) : Fo wi_X5_reckonDepths wj_X5_reckonDepths I J (F_X5_reckonDepths l1 I J) := by
  suffices key : ∀ (I0 : HI) (J0 : HJ), Sm wi_X5_reckonDepths I0 I → Sm wj_X5_reckonDepths J0 J → Fo wi_X5_reckonDepths wj_X5_reckonDepths I0 J0 (F_X5_reckonDepths l1 I J) from key I J Sm.rf Sm.rf
  intro I0 J0 hI hJ
  unfold F_X5_reckonDepths
  refine Fo.callp (fun r3 => ?_)
  refine Fo.call (fr_J7_fill_53178_57 (0 : Int32) I J) (by decide) (by decide) hI hJ (fun _ I4 J5 hI4 hJ5 => ?_)
  refine fr_X5_reckonDepths_L16 _ _ _ _ _ _ hJ5 (fun I7 hI7 => ?_) bgf _ _ hI4
  refine fr_X5_reckonDepths_L49 _ _ _ _ _ _ hJ5 (fun I12 hI12 => ?_) bgf _ _ hI7
  refine fr_X5_reckonDepths_L89 _ _ _ _ bgf _ _ _ hI12 hJ5
theorem fr_X5_grow_L33 (I0 : HI) (J0 : HJ) (kx69 : HI → HJ → Option (Unit × HI × HJ)) (hkx69 : ∀ (I1 : HI) (J1 : HJ), Sm wi_X5_grow I0 I1 → Sm wj_X5_grow J0 J1 → Fo wi_X5_grow wj_X5_grow I0 J0 (kx69 I1 J1)) : ∀ (K : Nat) (l1 : Int32) (I : HI) (J : HJ) (hI : Sm wi_X5_grow I0 I) (hJ : Sm wj_X5_grow J0 J), Fo wi_X5_grow wj_X5_grow I0 J0 (F_X5_grow_L33 kx69 K l1 I J) := by
  intro K
  induction K with
  | zero => intro l1 I J hI hJ; exact Fo.none
  | succ K ih =>
    intro l1 I J hI hJ
    rw [F_X5_grow_L33]
    refine Fo.ite ?_ ?_
    · exact hkx69 _ _ hI hJ
    · refine Fo.gbx ?_
      refine Fo.call (fr_X5_findGroup (I x_suspects_agrees (Int32.toNatClampNeg l1)) I J) (by decide) (by decide) hI hJ (fun r9 I10 J11 hI10 hJ11 => ?_)
      refine Fo.gbx ?_
      refine Fo.lui rfl hI10 (fun I12 hI12 => ?_)
      exact ih _ _ _ hI12 hJ11
theorem fr_X5_grow_L78 (I0 : HI) (J0 : HJ) (J : HJ) (kx103 : HI → Option (Unit × HI × HJ)) (hJ : Sm wj_X5_grow J0 J) (hkx103 : ∀ (I1 : HI), Sm wi_X5_grow I0 I1 → Fo wi_X5_grow wj_X5_grow I0 J0 (kx103 I1)) : ∀ (K : Nat) (l1 : Int32) (I : HI) (hI : Sm wi_X5_grow I0 I), Fo wi_X5_grow wj_X5_grow I0 J0 (F_X5_grow_L78 J kx103 K l1 I) := by
  intro K
  induction K with
  | zero => intro l1 I hI; exact Fo.none
  | succ K ih =>
    intro l1 I hI
    rw [F_X5_grow_L78]
    refine Fo.ite ?_ ?_
    · exact hkx103 _ hI
    · refine Fo.callp (fun r16 => ?_)
      refine Fo.gbx ?_
      refine Fo.lui rfl hI (fun I17 hI17 => ?_)
      exact ih _ _ hI17
theorem fr_X5_grow_L105 (I0 : HI) (J0 : HJ) (kx126 : HI → HJ → Option (Unit × HI × HJ)) (hkx126 : ∀ (I1 : HI) (J1 : HJ), Sm wi_X5_grow I0 I1 → Sm wj_X5_grow J0 J1 → Fo wi_X5_grow wj_X5_grow I0 J0 (kx126 I1 J1)) : ∀ (K : Nat) (l1 : Int32) (I : HI) (J : HJ) (hI : Sm wi_X5_grow I0 I) (hJ : Sm wj_X5_grow J0 J), Fo wi_X5_grow wj_X5_grow I0 J0 (F_X5_grow_L105 kx126 K l1 I J) := by
  intro K
  induction K with
  | zero => intro l1 I J hI hJ; exact Fo.none
  | succ K ih =>
    intro l1 I J hI hJ
    rw [F_X5_grow_L105]
    refine Fo.ite ?_ ?_
    · exact hkx126 _ _ hI hJ
    · refine Fo.call (fr_X5_partCells l1 I J) (by decide) (by decide) hI hJ (fun _ I19 J20 hI19 hJ20 => ?_)
      exact ih _ _ _ hI19 hJ20
theorem fr_X5_grow_L135 (I0 : HI) (J0 : HJ)  : ∀ (K : Nat) (l1 : Int32) (I : HI) (J : HJ) (hI : Sm wi_X5_grow I0 I) (hJ : Sm wj_X5_grow J0 J), Fo wi_X5_grow wj_X5_grow I0 J0 (F_X5_grow_L135 K l1 I J) := by
  intro K
  induction K with
  | zero => intro l1 I J hI hJ; exact Fo.none
  | succ K ih =>
    intro l1 I J hI hJ
    rw [F_X5_grow_L135]
    refine Fo.ite ?_ ?_
    · exact Fo.some hI hJ
    · refine Fo.call (fr_X5_reckonDepths l1 I J) (by decide) (by decide) hI hJ (fun _ I24 J25 hI24 hJ25 => ?_)
      exact ih _ _ _ hI24 hJ25
theorem fr_X5_grow_C26 (I0 : HI) (J0 : HJ) (I : HI) (J : HJ) (hI : Sm wi_X5_grow I0 I) (hJ : Sm wj_X5_grow J0 J) : Fo wi_X5_grow wj_X5_grow I0 J0 (F_X5_grow_C26 I J) := by
  unfold F_X5_grow_C26
  refine Fo.lui rfl hI (fun I26 hI26 => ?_)
  refine fr_X5_grow_L33 _ _ _ (fun I27 J28 hI27 hJ28 => ?_) bgf _ _ _ hI26 hJ
  refine Fo.gbx ?_
  refine Fo.lui rfl hI27 (fun I29 hI29 => ?_)
  refine fr_X5_grow_L78 _ _ _ _ hJ28 (fun I30 hI30 => ?_) bgf _ _ hI29
  refine fr_X5_grow_L105 _ _ _ (fun I31 J32 hI31 hJ32 => ?_) bgf _ _ _ hI30 hJ28
  refine Fo.lbv (fun x33 => ?_)
  refine fr_X5_grow_L135 _ _ bgf _ _ _ hI31 hJ32
theorem fr_X5_grow  (I : HI) (J : HJ) : Fo wi_X5_grow wj_X5_grow I J (F_X5_grow  I J) := by
  suffices key : ∀ (I0 : HI) (J0 : HJ), Sm wi_X5_grow I0 I → Sm wj_X5_grow J0 J → Fo wi_X5_grow wj_X5_grow I0 J0 (F_X5_grow  I J) from key I J Sm.rf Sm.rf
  intro I0 J0 hI hJ
  unfold F_X5_grow
  refine Fo.jn (fun j => ∀ (I6 : HI), Sm wi_X5_grow I0 I6 → Fo wi_X5_grow wj_X5_grow I0 J0 (j I6)) (fun I6 hI6 => ?_) (fun j7 hj7 => ?_)
  · refine Fo.lui rfl hI6 (fun I8 hI8 => ?_)
    refine fr_X5_grow_L33 _ _ _ (fun I13 J14 hI13 hJ14 => ?_) bgf _ _ _ hI8 hJ
    refine Fo.gbx ?_
    refine Fo.lui rfl hI13 (fun I15 hI15 => ?_)
    refine fr_X5_grow_L78 _ _ _ _ hJ14 (fun I18 hI18 => ?_) bgf _ _ hI15
    refine fr_X5_grow_L105 _ _ _ (fun I21 J22 hI21 hJ22 => ?_) bgf _ _ _ hI18 hJ14
    refine Fo.lbv (fun x23 => ?_)
    refine fr_X5_grow_L135 _ _ bgf _ _ _ hI21 hJ22
  · refine Fo.ite ?_ ?_
    · exact Fo.none
    · exact fr_X5_grow_C26 I0 J0 I J hI hJ
theorem fr_X11_tree_C27 (I0 : HI) (J0 : HJ) (I : HI) (J : HJ) (hI : Sm wi_X11_tree I0 I) (hJ : Sm wj_X11_tree J0 J) : Fo wi_X11_tree wj_X11_tree I0 J0 (F_X11_tree_C27 I J) := by
  unfold F_X11_tree_C27
  refine Fo.call (fr_X10_clear I J) (by decide) (by decide) hI hJ (fun _ I5 J6 hI5 hJ6 => ?_)
  refine Fo.callp (fun r7 => ?_)
  refine Fo.call (fr_X10_add (Int32.toInt64 r7) I5 J6) (by decide) (by decide) hI5 hJ6 (fun _ I8 J9 hI8 hJ9 => ?_)
  refine Fo.call (fr_X10_add (Int32.toInt64 (I8 x_plan f_Plan_groups)) I8 J9) (by decide) (by decide) hI8 hJ9 (fun _ I10 J11 hI10 hJ11 => ?_)
  refine Fo.callp (fun r12 => ?_)
  exact Fo.some hI10 hJ11
theorem fr_X11_tree  (I : HI) (J : HJ) : Fo wi_X11_tree wj_X11_tree I J (F_X11_tree  I J) := by
  suffices key : ∀ (I0 : HI) (J0 : HJ), Sm wi_X11_tree I0 I → Sm wj_X11_tree J0 J → Fo wi_X11_tree wj_X11_tree I0 J0 (F_X11_tree  I J) from key I J Sm.rf Sm.rf
  intro I0 J0 hI hJ
  unfold F_X11_tree
  refine Fo.call (fr_X7_gather I J) (by decide) (by decide) hI hJ (fun _ I1 J2 hI1 hJ2 => ?_)
  refine Fo.ite ?_ ?_
  · exact Fo.some hI1 hJ2
  · refine Fo.call (fr_X5_grow I1 J2) (by decide) (by decide) hI1 hJ2 (fun _ I3 J4 hI3 hJ4 => ?_)
    exact fr_X11_tree_C27 I0 J0 I3 J4 hI3 hJ4
theorem fr_X11_path_L75 (I0 : HI) (J0 : HJ) (l2 : Int32) (kx125 : Int32 → HI → HJ → Option (Int32 × HI × HJ)) (hkx125 : ∀ (y4 : Int32) (I1 : HI) (J1 : HJ), Sm wi_X11_path I0 I1 → Sm wj_X11_path J0 J1 → Fo wi_X11_path wj_X11_path I0 J0 (kx125 y4 I1 J1)) : ∀ (K : Nat) (l3 : Int32) (l4 : Int32) (l5 : Int32) (l6 : Int32) (I : HI) (J : HJ) (hI : Sm wi_X11_path I0 I) (hJ : Sm wj_X11_path J0 J), Fo wi_X11_path wj_X11_path I0 J0 (F_X11_path_L75 l2 kx125 K l3 l4 l5 l6 I J) := by
  intro K
  induction K with
  | zero => intro l3 l4 l5 l6 I J hI hJ; exact Fo.none
  | succ K ih =>
    intro l3 l4 l5 l6 I J hI hJ
    rw [F_X11_path_L75]
    refine Fo.ite ?_ ?_
    · exact hkx125 _ _ _ hI hJ
    · refine Fo.ite ?_ ?_
      · exact hkx125 _ _ _ hI hJ
      · refine Fo.call (fr_X10_add (Int32.toInt64 l5) I J) (by decide) (by decide) hI hJ (fun _ I14 J15 hI14 hJ15 => ?_)
        refine Fo.lbv (fun x16 => ?_)
        refine Fo.callp (fun r17 => ?_)
        exact ih _ _ _ _ _ _ hI14 hJ15
theorem fr_X11_path_C40 (I0 : HI) (J0 : HJ) (l1 : Int32) (I : HI) (J : HJ) (hI : Sm wi_X11_path I0 I) (hJ : Sm wj_X11_path J0 J) : Fo wi_X11_path wj_X11_path I0 J0 (F_X11_path_C40 l1 I J) := by
  unfold F_X11_path_C40
  refine Fo.call (fr_X10_clear I J) (by decide) (by decide) hI hJ (fun _ I10 J11 hI10 hJ11 => ?_)
  refine Fo.callp (fun r12 => ?_)
  refine Fo.callp (fun r13 => ?_)
  refine fr_X11_path_L75 _ _ _ _ (fun y18 I19 J20 hI19 hJ20 => ?_) bgf _ _ _ _ _ _ hI10 hJ11
  refine Fo.callp (fun r21 => ?_)
  refine Fo.call (fr_X10_add (Int32.toInt64 r21) I19 J20) (by decide) (by decide) hI19 hJ20 (fun _ I22 J23 hI22 hJ23 => ?_)
  exact Fo.some hI22 hJ23
theorem fr_X11_path (l1 : Int32) (I : HI) (J : HJ) : Fo wi_X11_path wj_X11_path I J (F_X11_path l1 I J) := by
  suffices key : ∀ (I0 : HI) (J0 : HJ), Sm wi_X11_path I0 I → Sm wj_X11_path J0 J → Fo wi_X11_path wj_X11_path I0 J0 (F_X11_path l1 I J) from key I J Sm.rf Sm.rf
  intro I0 J0 hI hJ
  unfold F_X11_path
  refine Fo.callp (fun r2 => ?_)
  refine Fo.ite ?_ ?_
  · exact Fo.some hI hJ
  · refine Fo.call (fr_X7_firstAgainst l1 I J) (by decide) (by decide) hI hJ (fun r3 I4 J5 hI4 hJ5 => ?_)
    refine Fo.ite ?_ ?_
    · refine Fo.call (fr_X7_gather I4 J5) (by decide) (by decide) hI4 hJ5 (fun _ I6 J7 hI6 hJ7 => ?_)
      refine Fo.call (fr_X5_grow I6 J7) (by decide) (by decide) hI6 hJ7 (fun _ I8 J9 hI8 hJ9 => ?_)
      exact fr_X11_path_C40 I0 J0 l1 I8 J9 hI8 hJ9
    · exact Fo.some hI4 hJ5
theorem fr_X3_copyFrom_76_25  (I : HI) (J : HJ) : Fo wi_X3_copyFrom_76_25 wj_X3_copyFrom_76_25 I J (F_X3_copyFrom_76_25  I J) := by
  suffices key : ∀ (I0 : HI) (J0 : HJ), Sm wi_X3_copyFrom_76_25 I0 I → Sm wj_X3_copyFrom_76_25 J0 J → Fo wi_X3_copyFrom_76_25 wj_X3_copyFrom_76_25 I0 J0 (F_X3_copyFrom_76_25  I J) from key I J Sm.rf Sm.rf
  intro I0 J0 hI hJ
  unfold F_X3_copyFrom_76_25
  refine Fo.lui rfl hI (fun I8 hI8 => ?_)
  refine Fo.lui rfl hI8 (fun I9 hI9 => ?_)
  refine Fo.lui rfl hI9 (fun I10 hI10 => ?_)
  refine Fo.ite Fo.none ?_
  refine Fo.lufj (fun _ => rfl) hJ (fun J11 hJ11 => ?_)
  refine Fo.ite Fo.none ?_
  refine Fo.luf (fun _ => rfl) hI10 (fun I12 hI12 => ?_)
  refine Fo.ite Fo.none ?_
  refine Fo.luf (fun _ => rfl) hI12 (fun I13 hI13 => ?_)
  refine Fo.ite Fo.none ?_
  refine Fo.lufj (fun _ => rfl) hJ11 (fun J14 hJ14 => ?_)
  exact Fo.some hI13 hJ14
theorem fr_X2_take_72_1_25  (I : HI) (J : HJ) : Fo wi_X2_take_72_1_25 wj_X2_take_72_1_25 I J (F_X2_take_72_1_25  I J) := by
  suffices key : ∀ (I0 : HI) (J0 : HJ), Sm wi_X2_take_72_1_25 I0 I → Sm wj_X2_take_72_1_25 J0 J → Fo wi_X2_take_72_1_25 wj_X2_take_72_1_25 I0 J0 (F_X2_take_72_1_25  I J) from key I J Sm.rf Sm.rf
  intro I0 J0 hI hJ
  unfold F_X2_take_72_1_25
  refine Fo.lui rfl hI (fun I6 hI6 => ?_)
  refine Fo.lui rfl hI6 (fun I7 hI7 => ?_)
  refine Fo.ite Fo.none ?_
  refine Fo.luf (fun _ => rfl) hI7 (fun I8 hI8 => ?_)
  refine Fo.ite Fo.none ?_
  refine Fo.luf (fun _ => rfl) hI8 (fun I9 hI9 => ?_)
  refine Fo.ite Fo.none ?_
  refine Fo.luf (fun _ => rfl) hI9 (fun I10 hI10 => ?_)
  refine Fo.call (fr_X3_copyFrom_76_25 I10 J) (by decide) (by decide) hI10 hJ (fun _ I11 J12 hI11 hJ12 => ?_)
  exact Fo.some hI11 hJ12
theorem fr_X3_copyFrom_67_25  (I : HI) (J : HJ) : Fo wi_X3_copyFrom_67_25 wj_X3_copyFrom_67_25 I J (F_X3_copyFrom_67_25  I J) := by
  suffices key : ∀ (I0 : HI) (J0 : HJ), Sm wi_X3_copyFrom_67_25 I0 I → Sm wj_X3_copyFrom_67_25 J0 J → Fo wi_X3_copyFrom_67_25 wj_X3_copyFrom_67_25 I0 J0 (F_X3_copyFrom_67_25  I J) from key I J Sm.rf Sm.rf
  intro I0 J0 hI hJ
  unfold F_X3_copyFrom_67_25
  refine Fo.lui rfl hI (fun I8 hI8 => ?_)
  refine Fo.lui rfl hI8 (fun I9 hI9 => ?_)
  refine Fo.lui rfl hI9 (fun I10 hI10 => ?_)
  refine Fo.ite Fo.none ?_
  refine Fo.lufj (fun _ => rfl) hJ (fun J11 hJ11 => ?_)
  refine Fo.ite Fo.none ?_
  refine Fo.luf (fun _ => rfl) hI10 (fun I12 hI12 => ?_)
  refine Fo.ite Fo.none ?_
  refine Fo.luf (fun _ => rfl) hI12 (fun I13 hI13 => ?_)
  refine Fo.ite Fo.none ?_
  refine Fo.lufj (fun _ => rfl) hJ11 (fun J14 hJ14 => ?_)
  exact Fo.some hI13 hJ14
theorem fr_X2_take_63_1_25  (I : HI) (J : HJ) : Fo wi_X2_take_63_1_25 wj_X2_take_63_1_25 I J (F_X2_take_63_1_25  I J) := by
  suffices key : ∀ (I0 : HI) (J0 : HJ), Sm wi_X2_take_63_1_25 I0 I → Sm wj_X2_take_63_1_25 J0 J → Fo wi_X2_take_63_1_25 wj_X2_take_63_1_25 I0 J0 (F_X2_take_63_1_25  I J) from key I J Sm.rf Sm.rf
  intro I0 J0 hI hJ
  unfold F_X2_take_63_1_25
  refine Fo.lui rfl hI (fun I6 hI6 => ?_)
  refine Fo.lui rfl hI6 (fun I7 hI7 => ?_)
  refine Fo.ite Fo.none ?_
  refine Fo.luf (fun _ => rfl) hI7 (fun I8 hI8 => ?_)
  refine Fo.ite Fo.none ?_
  refine Fo.luf (fun _ => rfl) hI8 (fun I9 hI9 => ?_)
  refine Fo.ite Fo.none ?_
  refine Fo.luf (fun _ => rfl) hI9 (fun I10 hI10 => ?_)
  refine Fo.call (fr_X3_copyFrom_67_25 I10 J) (by decide) (by decide) hI10 hJ (fun _ I11 J12 hI11 hJ12 => ?_)
  exact Fo.some hI11 hJ12
theorem fr_X11_keep (l1 : Int32) (I : HI) (J : HJ) : Fo wi_X11_keep wj_X11_keep I J (F_X11_keep l1 I J) := by
  suffices key : ∀ (I0 : HI) (J0 : HJ), Sm wi_X11_keep I0 I → Sm wj_X11_keep J0 J → Fo wi_X11_keep wj_X11_keep I0 J0 (F_X11_keep l1 I J) from key I J Sm.rf Sm.rf
  intro I0 J0 hI hJ
  unfold F_X11_keep
  refine Fo.ite ?_ ?_
  · exact Fo.some hI hJ
  · refine Fo.ite ?_ ?_
    · refine Fo.gbx ?_
      refine Fo.ite ?_ ?_
      · refine Fo.call (fr_X2_take_63_1_25 I J) (by decide) (by decide) hI hJ (fun _ I1 J2 hI1 hJ2 => ?_)
        exact Fo.some hI1 hJ2
      · refine Fo.call (fr_X2_take_72_1_25 I J) (by decide) (by decide) hI hJ (fun _ I3 J4 hI3 hJ4 => ?_)
        exact Fo.some hI3 hJ4
    · exact Fo.some hI hJ
theorem fr_X3_copyFrom_25_76  (I : HI) (J : HJ) : Fo wi_X3_copyFrom_25_76 wj_X3_copyFrom_25_76 I J (F_X3_copyFrom_25_76  I J) := by
  suffices key : ∀ (I0 : HI) (J0 : HJ), Sm wi_X3_copyFrom_25_76 I0 I → Sm wj_X3_copyFrom_25_76 J0 J → Fo wi_X3_copyFrom_25_76 wj_X3_copyFrom_25_76 I0 J0 (F_X3_copyFrom_25_76  I J) from key I J Sm.rf Sm.rf
  intro I0 J0 hI hJ
  unfold F_X3_copyFrom_25_76
  refine Fo.lui rfl hI (fun I8 hI8 => ?_)
  refine Fo.lui rfl hI8 (fun I9 hI9 => ?_)
  refine Fo.lui rfl hI9 (fun I10 hI10 => ?_)
  refine Fo.ite Fo.none ?_
  refine Fo.lufj (fun _ => rfl) hJ (fun J11 hJ11 => ?_)
  refine Fo.ite Fo.none ?_
  refine Fo.luf (fun _ => rfl) hI10 (fun I12 hI12 => ?_)
  refine Fo.ite Fo.none ?_
  refine Fo.luf (fun _ => rfl) hI12 (fun I13 hI13 => ?_)
  refine Fo.ite Fo.none ?_
  refine Fo.lufj (fun _ => rfl) hJ11 (fun J14 hJ14 => ?_)
  exact Fo.some hI13 hJ14
theorem fr_X2_give_72_1_25  (I : HI) (J : HJ) : Fo wi_X2_give_72_1_25 wj_X2_give_72_1_25 I J (F_X2_give_72_1_25  I J) := by
  suffices key : ∀ (I0 : HI) (J0 : HJ), Sm wi_X2_give_72_1_25 I0 I → Sm wj_X2_give_72_1_25 J0 J → Fo wi_X2_give_72_1_25 wj_X2_give_72_1_25 I0 J0 (F_X2_give_72_1_25  I J) from key I J Sm.rf Sm.rf
  intro I0 J0 hI hJ
  unfold F_X2_give_72_1_25
  refine Fo.lui rfl hI (fun I5 hI5 => ?_)
  refine Fo.ite Fo.none ?_
  refine Fo.luf (fun _ => rfl) hI5 (fun I6 hI6 => ?_)
  refine Fo.ite Fo.none ?_
  refine Fo.luf (fun _ => rfl) hI6 (fun I7 hI7 => ?_)
  refine Fo.ite Fo.none ?_
  refine Fo.luf (fun _ => rfl) hI7 (fun I8 hI8 => ?_)
  refine Fo.call (fr_X0_rewire I8 J) (by decide) (by decide) hI8 hJ (fun _ I9 J10 hI9 hJ10 => ?_)
  refine Fo.call (fr_X3_copyFrom_25_76 I9 J10) (by decide) (by decide) hI9 hJ10 (fun _ I11 J12 hI11 hJ12 => ?_)
  exact Fo.some hI11 hJ12
theorem fr_X3_copyFrom_25_67  (I : HI) (J : HJ) : Fo wi_X3_copyFrom_25_67 wj_X3_copyFrom_25_67 I J (F_X3_copyFrom_25_67  I J) := by
  suffices key : ∀ (I0 : HI) (J0 : HJ), Sm wi_X3_copyFrom_25_67 I0 I → Sm wj_X3_copyFrom_25_67 J0 J → Fo wi_X3_copyFrom_25_67 wj_X3_copyFrom_25_67 I0 J0 (F_X3_copyFrom_25_67  I J) from key I J Sm.rf Sm.rf
  intro I0 J0 hI hJ
  unfold F_X3_copyFrom_25_67
  refine Fo.lui rfl hI (fun I8 hI8 => ?_)
  refine Fo.lui rfl hI8 (fun I9 hI9 => ?_)
  refine Fo.lui rfl hI9 (fun I10 hI10 => ?_)
  refine Fo.ite Fo.none ?_
  refine Fo.lufj (fun _ => rfl) hJ (fun J11 hJ11 => ?_)
  refine Fo.ite Fo.none ?_
  refine Fo.luf (fun _ => rfl) hI10 (fun I12 hI12 => ?_)
  refine Fo.ite Fo.none ?_
  refine Fo.luf (fun _ => rfl) hI12 (fun I13 hI13 => ?_)
  refine Fo.ite Fo.none ?_
  refine Fo.lufj (fun _ => rfl) hJ11 (fun J14 hJ14 => ?_)
  exact Fo.some hI13 hJ14
theorem fr_X2_give_63_1_25  (I : HI) (J : HJ) : Fo wi_X2_give_63_1_25 wj_X2_give_63_1_25 I J (F_X2_give_63_1_25  I J) := by
  suffices key : ∀ (I0 : HI) (J0 : HJ), Sm wi_X2_give_63_1_25 I0 I → Sm wj_X2_give_63_1_25 J0 J → Fo wi_X2_give_63_1_25 wj_X2_give_63_1_25 I0 J0 (F_X2_give_63_1_25  I J) from key I J Sm.rf Sm.rf
  intro I0 J0 hI hJ
  unfold F_X2_give_63_1_25
  refine Fo.lui rfl hI (fun I5 hI5 => ?_)
  refine Fo.ite Fo.none ?_
  refine Fo.luf (fun _ => rfl) hI5 (fun I6 hI6 => ?_)
  refine Fo.ite Fo.none ?_
  refine Fo.luf (fun _ => rfl) hI6 (fun I7 hI7 => ?_)
  refine Fo.ite Fo.none ?_
  refine Fo.luf (fun _ => rfl) hI7 (fun I8 hI8 => ?_)
  refine Fo.call (fr_X0_rewire I8 J) (by decide) (by decide) hI8 hJ (fun _ I9 J10 hI9 hJ10 => ?_)
  refine Fo.call (fr_X3_copyFrom_25_67 I9 J10) (by decide) (by decide) hI9 hJ10 (fun _ I11 J12 hI11 hJ12 => ?_)
  exact Fo.some hI11 hJ12
theorem fr_X11_again (l1 : Int32) (I : HI) (J : HJ) : Fo wi_X11_again wj_X11_again I J (F_X11_again l1 I J) := by
  suffices key : ∀ (I0 : HI) (J0 : HJ), Sm wi_X11_again I0 I → Sm wj_X11_again J0 J → Fo wi_X11_again wj_X11_again I0 J0 (F_X11_again l1 I J) from key I J Sm.rf Sm.rf
  intro I0 J0 hI hJ
  unfold F_X11_again
  refine Fo.ite ?_ ?_
  · exact Fo.some hI hJ
  · refine Fo.ite ?_ ?_
    · exact Fo.some hI hJ
    · refine Fo.gbx ?_
      refine Fo.ite ?_ ?_
      · refine Fo.ite ?_ ?_
        · exact Fo.some hI hJ
        · refine Fo.gbx ?_
          refine Fo.ite ?_ ?_
          · refine Fo.call (fr_X2_give_63_1_25 I J) (by decide) (by decide) hI hJ (fun _ I3 J4 hI3 hJ4 => ?_)
            refine Fo.lui rfl hI3 (fun I5 hI5 => ?_)
            exact Fo.some hI5 hJ4
          · refine Fo.call (fr_X2_give_72_1_25 I J) (by decide) (by decide) hI hJ (fun _ I6 J7 hI6 hJ7 => ?_)
            refine Fo.lui rfl hI6 (fun I8 hI8 => ?_)
            exact Fo.some hI8 hJ7
      · refine Fo.ite ?_ ?_
        · exact Fo.some hI hJ
        · refine Fo.gbx ?_
          refine Fo.ite ?_ ?_
          · refine Fo.call (fr_X2_give_63_1_25 I J) (by decide) (by decide) hI hJ (fun _ I9 J10 hI9 hJ10 => ?_)
            refine Fo.lui rfl hI9 (fun I11 hI11 => ?_)
            exact Fo.some hI11 hJ10
          · refine Fo.call (fr_X2_give_72_1_25 I J) (by decide) (by decide) hI hJ (fun _ I12 J13 hI12 hJ13 => ?_)
            refine Fo.lui rfl hI12 (fun I14 hI14 => ?_)
            exact Fo.some hI14 hJ13

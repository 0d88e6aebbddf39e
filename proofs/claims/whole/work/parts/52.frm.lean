/-! what the computations may change: X12 -/
def wi_X12_sign : Pl := [(81, some 11), (81, some 14), (87, none)]
def wj_X12_sign : Pl := []
def wi_X12_end : Pl := [(81, some 11), (81, some 14)]
def wj_X12_end : Pl := []
def wi_X12_fault : Pl := [(81, some 17)]
def wj_X12_fault : Pl := []
def wi_X12_passes : Pl := [(81, some 16)]
def wj_X12_passes : Pl := []
def wi_X12_number : Pl := [(81, some 16), (81, some 17)]
def wj_X12_number : Pl := []
def wi_X12_need : Pl := [(81, some 16), (81, some 17)]
def wj_X12_need : Pl := []
def wi_X12_take : Pl := [(81, some 0), (81, some 1), (81, some 7), (81, some 8), (81, some 9), (81, some 58), (81, some 65), (82, none), (83, none), (84, none), (85, none)]
def wj_X12_take : Pl := [(101, none)]
def wi_X12_board : Pl := [(81, some 0), (81, some 1), (81, some 7), (81, some 8), (81, some 9), (81, some 11), (81, some 14), (81, some 15), (81, some 16), (81, some 17), (81, some 58), (81, some 65), (82, none), (83, none), (84, none), (85, none), (89, none)]
def wj_X12_board : Pl := [(101, none)]
def wi_X12_set : Pl := [(81, some 14), (86, none)]
def wj_X12_set : Pl := []
def wi_X12_lost : Pl := [(81, some 14)]
def wj_X12_lost : Pl := []
def wi_X12_lamp : Pl := [(81, some 14)]
def wj_X12_lamp : Pl := []
def wi_X12_ohms : Pl := [(81, some 14)]
def wj_X12_ohms : Pl := []
def wi_X12_sheet : Pl := [(81, some 14), (84, none)]
def wj_X12_sheet : Pl := []
def wi_X12_change : Pl := [(82, none), (83, none)]
def wj_X12_change : Pl := []
def wi_X12_swap : Pl := [(81, some 14), (82, none), (83, none)]
def wj_X12_swap : Pl := []
def wi_X12_findFault : Pl := [(81, some 19), (81, some 20)]
def wj_X12_findFault : Pl := []
def wi_X12_lay : Pl := [(81, some 19), (81, some 20), (81, some 24), (81, some 25), (81, some 26), (90, none), (91, none), (92, none)]
def wj_X12_lay : Pl := []
def wi_X12_begin : Pl := [(81, some 27), (81, some 28), (81, some 29)]
def wj_X12_begin : Pl := []
def wi_X12_arrive : Pl := [(81, some 37), (94, none), (98, none)]
def wj_X12_arrive : Pl := [(81, some 36), (93, none), (95, none), (96, none)]
def wi_X12_goOn : Pl := [(81, some 37), (94, none), (97, none), (98, none)]
def wj_X12_goOn : Pl := [(81, some 36), (93, none), (95, none), (96, none)]
def wi_X12_shine : Pl := [(81, some 27), (81, some 28), (81, some 29), (81, some 37), (94, none), (97, none), (98, none)]
def wj_X12_shine : Pl := [(81, some 36), (93, none), (95, none), (96, none)]
def wi_X12_glowing : Pl := [(81, some 27), (81, some 28), (81, some 29), (81, some 37), (94, none), (97, none), (98, none)]
def wj_X12_glowing : Pl := [(81, some 36), (93, none), (95, none), (96, none)]
def wi_X12_glowingWith : Pl := [(81, some 19), (81, some 20), (81, some 24), (81, some 25), (81, some 26), (81, some 27), (81, some 28), (81, some 29), (81, some 37), (90, none), (91, none), (92, none), (94, none), (97, none), (98, none)]
def wj_X12_glowingWith : Pl := [(81, some 36), (93, none), (95, none), (96, none)]
def wi_X12_put : Pl := [(81, some 7), (81, some 8), (81, some 14), (81, some 19), (81, some 20), (81, some 24), (81, some 25), (81, some 26), (81, some 27), (81, some 28), (81, some 29), (81, some 37), (90, none), (91, none), (92, none), (94, none), (97, none), (98, none)]
def wj_X12_put : Pl := [(81, some 36), (93, none), (95, none), (96, none)]
def wi_X12_glows : Pl := [(81, some 14), (81, some 19), (81, some 20), (81, some 24), (81, some 25), (81, some 26), (81, some 27), (81, some 28), (81, some 29), (81, some 37), (90, none), (91, none), (92, none), (94, none), (97, none), (98, none)]
def wj_X12_glows : Pl := [(81, some 36), (93, none), (95, none), (96, none)]
def wi_X12_ghosts : Pl := [(81, some 14), (81, some 19), (81, some 20), (81, some 24), (81, some 25), (81, some 26), (81, some 27), (81, some 28), (81, some 29), (81, some 37), (90, none), (91, none), (92, none), (94, none), (97, none), (98, none)]
def wj_X12_ghosts : Pl := [(81, some 36), (93, none), (95, none), (96, none)]
def wi_X12_countAll : Pl := [(81, some 19), (81, some 20), (81, some 24), (81, some 25), (81, some 26), (81, some 27), (81, some 28), (81, some 29), (81, some 35), (81, some 37), (81, some 39), (90, none), (91, none), (92, none), (94, none), (97, none), (98, none)]
def wj_X12_countAll : Pl := [(81, some 36), (93, none), (95, none), (96, none)]
def wi_X12_tell : Pl := [(81, some 13)]
def wj_X12_tell : Pl := [(88, none)]
def wi_X12_light : Pl := [(81, some 13), (81, some 14), (81, some 19), (81, some 20), (81, some 24), (81, some 25), (81, some 26), (81, some 27), (81, some 28), (81, some 29), (81, some 35), (81, some 37), (81, some 39), (90, none), (91, none), (92, none), (94, none), (97, none), (98, none)]
def wj_X12_light : Pl := [(81, some 36), (88, none), (93, none), (95, none), (96, none)]
def wi_X12_why : Pl := [(81, some 13), (81, some 14), (81, some 19), (81, some 20), (81, some 24), (81, some 25), (81, some 26), (81, some 27), (81, some 28), (81, some 29), (81, some 35), (81, some 37), (81, some 39), (90, none), (91, none), (92, none), (94, none), (97, none), (98, none)]
def wj_X12_why : Pl := [(81, some 36), (88, none), (93, none), (95, none), (96, none)]
def wi_X12_draws : Pl := [(81, some 14), (81, some 19), (81, some 20), (81, some 24), (81, some 25), (81, some 26), (81, some 27), (81, some 28), (81, some 29), (81, some 35), (81, some 37), (81, some 39), (90, none), (91, none), (92, none), (94, none), (97, none), (98, none)]
def wj_X12_draws : Pl := [(81, some 36), (93, none), (95, none), (96, none)]
def wi_X12_brightest : Pl := [(81, some 13), (81, some 14), (81, some 19), (81, some 20), (81, some 24), (81, some 25), (81, some 26), (81, some 27), (81, some 28), (81, some 29), (81, some 35), (81, some 37), (81, some 39), (90, none), (91, none), (92, none), (94, none), (97, none), (98, none)]
def wj_X12_brightest : Pl := [(81, some 36), (88, none), (93, none), (95, none), (96, none)]
def wi_X12_findGlow_99 : Pl := [(81, some 19), (81, some 20), (81, some 24), (81, some 25), (81, some 26), (81, some 27), (81, some 28), (81, some 29), (81, some 37), (90, none), (91, none), (92, none), (94, none), (97, none), (98, none)]
def wj_X12_findGlow_99 : Pl := [(81, some 36), (93, none), (95, none), (96, none), (99, none)]
def wi_X12_findAll : Pl := [(81, some 19), (81, some 20), (81, some 24), (81, some 25), (81, some 26), (81, some 27), (81, some 28), (81, some 29), (81, some 37), (90, none), (91, none), (92, none), (94, none), (97, none), (98, none), (100, none)]
def wj_X12_findAll : Pl := [(81, some 36), (93, none), (95, none), (96, none), (99, none)]
def wi_X12_shows : Pl := [(81, some 13), (81, some 14), (81, some 19), (81, some 20), (81, some 24), (81, some 25), (81, some 26), (81, some 27), (81, some 28), (81, some 29), (81, some 37), (90, none), (91, none), (92, none), (94, none), (97, none), (98, none), (100, none)]
def wj_X12_shows : Pl := [(81, some 36), (88, none), (93, none), (95, none), (96, none), (99, none)]
def wi_X12_bars : Pl := [(81, some 13), (81, some 14), (81, some 19), (81, some 20), (81, some 24), (81, some 25), (81, some 26), (81, some 27), (81, some 28), (81, some 29), (81, some 37), (90, none), (91, none), (92, none), (94, none), (97, none), (98, none), (100, none)]
def wj_X12_bars : Pl := [(81, some 36), (88, none), (93, none), (95, none), (96, none), (99, none)]
def wi_X12_most : Pl := [(81, some 13), (81, some 14), (81, some 19), (81, some 20), (81, some 24), (81, some 25), (81, some 26), (81, some 27), (81, some 28), (81, some 29), (81, some 37), (90, none), (91, none), (92, none), (94, none), (97, none), (98, none), (100, none)]
def wj_X12_most : Pl := [(81, some 36), (88, none), (93, none), (95, none), (96, none), (99, none)]
def wi_X12_sets : Pl := [(81, some 13), (81, some 14), (81, some 19), (81, some 20), (81, some 24), (81, some 25), (81, some 26), (81, some 27), (81, some 28), (81, some 29), (81, some 37), (90, none), (91, none), (92, none), (94, none), (97, none), (98, none), (100, none)]
def wj_X12_sets : Pl := [(81, some 36), (88, none), (93, none), (95, none), (96, none), (99, none)]
def wi_X12_fits : Pl := [(81, some 14), (81, some 19), (81, some 20), (81, some 24), (81, some 25), (81, some 26), (81, some 27), (81, some 28), (81, some 29), (81, some 37), (90, none), (91, none), (92, none), (94, none), (97, none), (98, none), (100, none)]
def wj_X12_fits : Pl := [(81, some 36), (93, none), (95, none), (96, none), (99, none)]
def wi_X12_alone : Pl := [(81, some 14), (81, some 19), (81, some 20), (81, some 24), (81, some 25), (81, some 26), (81, some 27), (81, some 28), (81, some 29), (81, some 37), (90, none), (91, none), (92, none), (94, none), (97, none), (98, none), (100, none)]
def wj_X12_alone : Pl := [(81, some 36), (93, none), (95, none), (96, none), (99, none)]
def wi_X12_twins : Pl := [(81, some 13), (81, some 14), (81, some 19), (81, some 20), (81, some 24), (81, some 25), (81, some 26), (81, some 27), (81, some 28), (81, some 29), (81, some 37), (90, none), (91, none), (92, none), (94, none), (97, none), (98, none), (100, none)]
def wj_X12_twins : Pl := [(81, some 36), (88, none), (93, none), (95, none), (96, none), (99, none)]
def wi_X12_range : Pl := [(81, some 14), (81, some 19), (81, some 20), (81, some 24), (81, some 25), (81, some 26), (81, some 27), (81, some 28), (81, some 29), (81, some 37), (86, none), (90, none), (91, none), (92, none), (94, none), (97, none), (98, none)]
def wj_X12_range : Pl := [(81, some 36), (93, none), (95, none), (96, none)]
def wi_X12_picture : Pl := [(81, some 14)]
def wj_X12_picture : Pl := [(101, none)]
def wi_X12_findTurns : Pl := [(81, some 19), (81, some 20), (81, some 24), (81, some 25), (81, some 26), (81, some 27), (81, some 28), (81, some 29), (81, some 37), (81, some 44), (90, none), (91, none), (92, none), (94, none), (97, none), (98, none), (100, none), (102, none), (103, none)]
def wj_X12_findTurns : Pl := [(81, some 36), (93, none), (95, none), (96, none), (99, none)]
def wi_X12_findParted : Pl := [(81, some 19), (81, some 20), (81, some 24), (81, some 25), (81, some 26), (81, some 27), (81, some 28), (81, some 29), (81, some 37), (81, some 44), (81, some 51), (90, none), (91, none), (92, none), (94, none), (97, none), (98, none), (100, none), (102, none), (103, none), (104, none), (105, none), (106, none), (107, none), (108, none)]
def wj_X12_findParted : Pl := [(81, some 36), (93, none), (95, none), (96, none), (99, none)]
def wi_X12_tellTurns : Pl := [(81, some 13)]
def wj_X12_tellTurns : Pl := [(88, none)]
def wi_X12_parted : Pl := [(81, some 13), (81, some 14), (81, some 19), (81, some 20), (81, some 24), (81, some 25), (81, some 26), (81, some 27), (81, some 28), (81, some 29), (81, some 37), (81, some 44), (81, some 51), (90, none), (91, none), (92, none), (94, none), (97, none), (98, none), (100, none), (102, none), (103, none), (104, none), (105, none), (106, none), (107, none), (108, none)]
def wj_X12_parted : Pl := [(81, some 36), (88, none), (93, none), (95, none), (96, none), (99, none)]
def wi_X12_proof : Pl := [(81, some 13), (81, some 14), (81, some 19), (81, some 20), (81, some 24), (81, some 25), (81, some 26), (81, some 27), (81, some 28), (81, some 29), (81, some 37), (81, some 44), (90, none), (91, none), (92, none), (94, none), (97, none), (98, none), (100, none), (102, none), (103, none)]
def wj_X12_proof : Pl := [(81, some 36), (88, none), (93, none), (95, none), (96, none), (99, none)]
def wi_X12_never : Pl := [(81, some 14), (81, some 19), (81, some 20), (81, some 24), (81, some 25), (81, some 26), (81, some 27), (81, some 28), (81, some 29), (81, some 37), (90, none), (91, none), (92, none), (94, none), (97, none), (98, none), (100, none)]
def wj_X12_never : Pl := [(81, some 36), (93, none), (95, none), (96, none), (99, none)]
def wi_X12_goOrders : Pl := [(81, some 54), (109, none), (110, none)]
def wj_X12_goOrders : Pl := []
def wi_X12_changes : Pl := [(81, some 13), (81, some 14), (81, some 19), (81, some 20), (81, some 24), (81, some 25), (81, some 26), (81, some 27), (81, some 28), (81, some 29), (81, some 37), (81, some 44), (81, some 51), (81, some 54), (90, none), (91, none), (92, none), (94, none), (97, none), (98, none), (100, none), (102, none), (103, none), (104, none), (105, none), (106, none), (107, none), (108, none), (109, none), (110, none)]
def wj_X12_changes : Pl := [(81, some 36), (88, none), (93, none), (95, none), (96, none), (99, none)]
def wi_X12_even : Pl := [(81, some 13), (81, some 14), (81, some 19), (81, some 20), (81, some 24), (81, some 25), (81, some 26), (81, some 27), (81, some 28), (81, some 29), (81, some 37), (81, some 44), (81, some 51), (90, none), (91, none), (92, none), (94, none), (97, none), (98, none), (100, none), (102, none), (103, none), (104, none), (105, none), (106, none), (107, none), (108, none), (112, none)]
def wj_X12_even : Pl := [(81, some 36), (88, none), (93, none), (95, none), (96, none), (99, none), (111, none)]
def wi_X12_better : Pl := [(81, some 13), (81, some 14), (81, some 19), (81, some 20), (81, some 24), (81, some 25), (81, some 26), (81, some 27), (81, some 28), (81, some 29), (81, some 37), (81, some 44), (81, some 51), (82, none), (83, none), (90, none), (91, none), (92, none), (94, none), (97, none), (98, none), (100, none), (102, none), (103, none), (104, none), (105, none), (106, none), (107, none), (108, none)]
def wj_X12_better : Pl := [(81, some 36), (88, none), (93, none), (95, none), (96, none), (99, none)]
def wi_X12_faults : Pl := [(81, some 13), (81, some 14)]
def wj_X12_faults : Pl := [(88, none)]
def wi_X12_fault_ : Pl := [(81, some 14), (81, some 19), (81, some 20)]
def wj_X12_fault_ : Pl := []
def wi_X12_would : Pl := [(81, some 14), (81, some 19), (81, some 20), (81, some 24), (81, some 25), (81, some 26), (81, some 27), (81, some 28), (81, some 29), (81, some 37), (90, none), (91, none), (92, none), (94, none), (97, none), (98, none)]
def wj_X12_would : Pl := [(81, some 36), (93, none), (95, none), (96, none)]
def wi_X12_findGlow_113 : Pl := [(81, some 19), (81, some 20), (81, some 24), (81, some 25), (81, some 26), (81, some 27), (81, some 28), (81, some 29), (81, some 37), (90, none), (91, none), (92, none), (94, none), (97, none), (98, none)]
def wj_X12_findGlow_113 : Pl := [(81, some 36), (93, none), (95, none), (96, none), (113, none)]
def wi_X12_tells : Pl := [(81, some 13), (81, some 14), (81, some 19), (81, some 20), (81, some 24), (81, some 25), (81, some 26), (81, some 27), (81, some 28), (81, some 29), (81, some 37), (90, none), (91, none), (92, none), (94, none), (97, none), (98, none)]
def wj_X12_tells : Pl := [(81, some 36), (88, none), (93, none), (95, none), (96, none), (99, none), (113, none)]
def wi_X12_hidden : Pl := [(81, some 13), (81, some 14), (81, some 19), (81, some 20), (81, some 24), (81, some 25), (81, some 26), (81, some 27), (81, some 28), (81, some 29), (81, some 37), (90, none), (91, none), (92, none), (94, none), (97, none), (98, none)]
def wj_X12_hidden : Pl := [(81, some 36), (88, none), (93, none), (95, none), (96, none), (99, none), (113, none)]
def wi_X12_alike : Pl := [(81, some 13), (81, some 14), (81, some 19), (81, some 20), (81, some 24), (81, some 25), (81, some 26), (81, some 27), (81, some 28), (81, some 29), (81, some 37), (90, none), (91, none), (92, none), (94, none), (97, none), (98, none)]
def wj_X12_alike : Pl := [(81, some 36), (88, none), (93, none), (95, none), (96, none), (99, none), (113, none)]
def wi_X12_seen : Pl := [(81, some 14), (81, some 58), (114, none), (115, none)]
def wj_X12_seen : Pl := [(116, none)]
def wi_X12_forget : Pl := [(81, some 14), (81, some 58)]
def wj_X12_forget : Pl := []
def wi_X12_bar : Pl := [(81, some 19), (81, some 20), (81, some 24), (81, some 25), (81, some 26), (81, some 27), (81, some 28), (81, some 29), (81, some 37), (90, none), (91, none), (92, none), (94, none), (97, none), (98, none)]
def wj_X12_bar : Pl := [(81, some 36), (93, none), (95, none), (96, none)]
def wi_X12_findAgreed : Pl := [(81, some 19), (81, some 20), (81, some 24), (81, some 25), (81, some 26), (81, some 27), (81, some 28), (81, some 29), (81, some 37), (81, some 63), (90, none), (91, none), (92, none), (94, none), (97, none), (98, none), (117, none)]
def wj_X12_findAgreed : Pl := [(81, some 36), (93, none), (95, none), (96, none)]
def wi_X12_which : Pl := [(81, some 13), (81, some 14), (81, some 19), (81, some 20), (81, some 24), (81, some 25), (81, some 26), (81, some 27), (81, some 28), (81, some 29), (81, some 37), (81, some 63), (90, none), (91, none), (92, none), (94, none), (97, none), (98, none), (117, none)]
def wj_X12_which : Pl := [(81, some 36), (88, none), (93, none), (95, none), (96, none)]
def wi_X12_judge : Pl := [(81, some 14), (81, some 19), (81, some 20), (81, some 24), (81, some 25), (81, some 26), (81, some 27), (81, some 28), (81, some 29), (81, some 37), (90, none), (91, none), (92, none), (94, none), (97, none), (98, none)]
def wj_X12_judge : Pl := [(81, some 36), (93, none), (95, none), (96, none)]
def wi_X12_next : Pl := [(81, some 13), (81, some 14), (81, some 19), (81, some 20), (81, some 24), (81, some 25), (81, some 26), (81, some 27), (81, some 28), (81, some 29), (81, some 37), (81, some 63), (90, none), (91, none), (92, none), (94, none), (97, none), (98, none), (117, none)]
def wj_X12_next : Pl := [(81, some 36), (88, none), (93, none), (95, none), (96, none), (99, none), (118, none)]
def wi_X12_test : Pl := [(81, some 14), (81, some 65), (119, none), (120, none)]
def wj_X12_test : Pl := []
def wi_X12_findAnswers : Pl := [(81, some 19), (81, some 20), (81, some 24), (81, some 25), (81, some 26), (81, some 27), (81, some 28), (81, some 29), (81, some 37), (81, some 63), (90, none), (91, none), (92, none), (94, none), (97, none), (98, none), (117, none), (122, none), (123, none)]
def wj_X12_findAnswers : Pl := [(81, some 36), (93, none), (95, none), (96, none), (121, none)]
def wi_X12_depthBy : Pl := [(122, none)]
def wj_X12_depthBy : Pl := []
def wi_X12_depthOf : Pl := [(122, none)]
def wj_X12_depthOf : Pl := []
def wi_X12_firstTest : Pl := [(122, none)]
def wj_X12_firstTest : Pl := []
def wi_X12_tree : Pl := [(81, some 13), (81, some 14), (81, some 19), (81, some 20), (81, some 24), (81, some 25), (81, some 26), (81, some 27), (81, some 28), (81, some 29), (81, some 37), (81, some 63), (90, none), (91, none), (92, none), (94, none), (97, none), (98, none), (117, none), (122, none), (123, none)]
def wj_X12_tree : Pl := [(81, some 36), (88, none), (93, none), (95, none), (96, none), (121, none)]
def wi_X12_path : Pl := [(81, some 13), (81, some 14), (81, some 19), (81, some 20), (81, some 24), (81, some 25), (81, some 26), (81, some 27), (81, some 28), (81, some 29), (81, some 37), (81, some 63), (90, none), (91, none), (92, none), (94, none), (97, none), (98, none), (117, none), (122, none), (123, none)]
def wj_X12_path : Pl := [(81, some 36), (88, none), (93, none), (95, none), (96, none), (121, none)]
def wi_X12_keep : Pl := [(81, some 14), (124, none), (126, none), (127, none)]
def wj_X12_keep : Pl := [(125, none)]
def wi_X12_again : Pl := [(81, some 1), (81, some 7), (81, some 8), (81, some 14), (81, some 58), (82, none), (83, none), (84, none), (114, none), (115, none)]
def wj_X12_again : Pl := [(101, none), (116, none)]
def wi_X12_count : Pl := [(81, some 14)]
def wj_X12_count : Pl := []
def wi_X12_row : Pl := [(81, some 14)]
def wj_X12_row : Pl := []
theorem fr_X12_sign_L20 (I0 : HI) (J0 : HJ) (l1 : Int32) (J : HJ) (kx53 : HI → Option (Int32 × HI × HJ)) (hJ : Sm wj_X12_sign J0 J) (hkx53 : ∀ (I1 : HI), Sm wi_X12_sign I0 I1 → Fo wi_X12_sign wj_X12_sign I0 J0 (kx53 I1)) : ∀ (K : Nat) (l2 : Int32) (I : HI) (hI : Sm wi_X12_sign I0 I), Fo wi_X12_sign wj_X12_sign I0 J0 (F_X12_sign_L20 l1 J kx53 K l2 I) := by
  intro K
  induction K with
  | zero => intro l2 I hI; exact Fo.none
  | succ K ih =>
    intro l2 I hI
    rw [F_X12_sign_L20]
    refine Fo.ite ?_ ?_
    · exact hkx53 _ hI
    · refine Fo.lui rfl hI (fun I5 hI5 => ?_)
      refine Fo.gbx ?_
      refine Fo.lui rfl hI5 (fun I6 hI6 => ?_)
      exact ih _ _ hI6
theorem fr_X12_sign (l1 : Int32) (I : HI) (J : HJ) : Fo wi_X12_sign wj_X12_sign I J (F_X12_sign l1 I J) := by
  suffices key : ∀ (I0 : HI) (J0 : HJ), Sm wi_X12_sign I0 I → Sm wj_X12_sign J0 J → Fo wi_X12_sign wj_X12_sign I0 J0 (F_X12_sign l1 I J) from key I J Sm.rf Sm.rf
  intro I0 J0 hI hJ
  unfold F_X12_sign
  refine Fo.lui rfl hI (fun I4 hI4 => ?_)
  refine Fo.ite ?_ ?_
  · refine fr_X12_sign_L20 _ _ _ _ _ hJ (fun I7 hI7 => ?_) bgf _ _ hI4
    exact Fo.some hI7 hJ
  · exact Fo.some hI4 hJ
theorem fr_X12_end (l1 : Int32) (I : HI) (J : HJ) : Fo wi_X12_end wj_X12_end I J (F_X12_end l1 I J) := by
  suffices key : ∀ (I0 : HI) (J0 : HJ), Sm wi_X12_end I0 I → Sm wj_X12_end J0 J → Fo wi_X12_end wj_X12_end I0 J0 (F_X12_end l1 I J) from key I J Sm.rf Sm.rf
  intro I0 J0 hI hJ
  unfold F_X12_end
  refine Fo.lui rfl hI (fun I3 hI3 => ?_)
  refine Fo.callp (fun r4 => ?_)
  refine Fo.ite ?_ ?_
  · exact Fo.some hI3 hJ
  · refine Fo.lui rfl hI3 (fun I5 hI5 => ?_)
    exact Fo.some hI5 hJ
theorem fr_X12_fault (l1 : Int32) (I : HI) (J : HJ) : Fo wi_X12_fault wj_X12_fault I J (F_X12_fault l1 I J) := by
  suffices key : ∀ (I0 : HI) (J0 : HJ), Sm wi_X12_fault I0 I → Sm wj_X12_fault J0 J → Fo wi_X12_fault wj_X12_fault I0 J0 (F_X12_fault l1 I J) from key I J Sm.rf Sm.rf
  intro I0 J0 hI hJ
  unfold F_X12_fault
  refine Fo.ite ?_ ?_
  · refine Fo.lui rfl hI (fun I2 hI2 => ?_)
    exact Fo.some hI2 hJ
  · exact Fo.some hI hJ
theorem fr_X12_passes (l1 : Int32) (I : HI) (J : HJ) : Fo wi_X12_passes wj_X12_passes I J (F_X12_passes l1 I J) := by
  suffices key : ∀ (I0 : HI) (J0 : HJ), Sm wi_X12_passes I0 I → Sm wj_X12_passes J0 J → Fo wi_X12_passes wj_X12_passes I0 J0 (F_X12_passes l1 I J) from key I J Sm.rf Sm.rf
  intro I0 J0 hI hJ
  unfold F_X12_passes
  refine Fo.ite ?_ ?_
  · refine Fo.callp (fun r2 => ?_)
    refine Fo.ite ?_ ?_
    · refine Fo.lui rfl hI (fun I3 hI3 => ?_)
      exact Fo.some hI3 hJ
    · exact Fo.some hI hJ
  · exact Fo.some hI hJ
theorem fr_X12_number_L19 (I0 : HI) (J0 : HJ) (l1 : Int32) (l2 : Int32) (l3 : Int32) (l4 : Int32) (J : HJ) (kx75 : Int32 → HI → Option (Int32 × HI × HJ)) (hJ : Sm wj_X12_number J0 J) (hkx75 : ∀ (y5 : Int32) (I1 : HI), Sm wi_X12_number I0 I1 → Fo wi_X12_number wj_X12_number I0 J0 (kx75 y5 I1)) : ∀ (K : Nat) (l5 : Int32) (I : HI) (hI : Sm wi_X12_number I0 I), Fo wi_X12_number wj_X12_number I0 J0 (F_X12_number_L19 l1 l2 l3 l4 J kx75 K l5 I) := by
  intro K
  induction K with
  | zero => intro l5 I hI; exact Fo.none
  | succ K ih =>
    intro l5 I hI
    rw [F_X12_number_L19]
    refine Fo.ite ?_ ?_
    · exact hkx75 _ _ hI
    · refine Fo.callp (fun r5 => ?_)
      refine Fo.callp (fun r6 => ?_)
      refine Fo.ite ?_ ?_
      · exact hkx75 _ _ hI
      · refine Fo.callp (fun r7 => ?_)
        refine Fo.lbv (fun x8 => ?_)
        refine Fo.lui rfl hI (fun I9 hI9 => ?_)
        exact ih _ _ hI9
theorem fr_X12_number (l1 : Int32) (l2 : Int32) (l3 : Int32) (I : HI) (J : HJ) : Fo wi_X12_number wj_X12_number I J (F_X12_number l1 l2 l3 I J) := by
  suffices key : ∀ (I0 : HI) (J0 : HJ), Sm wi_X12_number I0 I → Sm wj_X12_number J0 J → Fo wi_X12_number wj_X12_number I0 J0 (F_X12_number l1 l2 l3 I J) from key I J Sm.rf Sm.rf
  intro I0 J0 hI hJ
  unfold F_X12_number
  refine Fo.ite ?_ ?_
  · refine Fo.lbv (fun x4 => ?_)
    refine fr_X12_number_L19 _ _ _ _ _ _ _ _ hJ (fun y10 I11 hI11 => ?_) bgf _ _ hI
    refine Fo.jn (fun j => ∀ (I12 : HI) (J13 : HJ), Sm wi_X12_number I0 I12 → Sm wj_X12_number J0 J13 → Fo wi_X12_number wj_X12_number I0 J0 (j I12 J13)) (fun I12 J13 hI12 hJ13 => ?_) (fun j14 hj14 => ?_)
    · refine Fo.ite ?_ ?_
      · exact Fo.some hI12 hJ13
      · exact Fo.some hI12 hJ13
    · refine Fo.ite ?_ ?_
      · refine Fo.call (fr_X12_fault (I11 m_self f_Model_at) I11 J) (by decide) (by decide) hI11 hJ (fun _ I18 J19 hI18 hJ19 => ?_)
        exact hj14 _ _ hI18 hJ19
      · refine Fo.callp (fun r15 => ?_)
        refine Fo.ite ?_ ?_
        · refine Fo.call (fr_X12_fault ((I11 m_self f_Model_at) - (1 : Int32)) I11 J) (by decide) (by decide) hI11 hJ (fun _ I16 J17 hI16 hJ17 => ?_)
          exact hj14 _ _ hI16 hJ17
        · exact hj14 _ _ hI11 hJ
  · exact Fo.some hI hJ
theorem fr_X12_need (l1 : Int32) (I : HI) (J : HJ) : Fo wi_X12_need wj_X12_need I J (F_X12_need l1 I J) := by
  suffices key : ∀ (I0 : HI) (J0 : HJ), Sm wi_X12_need I0 I → Sm wj_X12_need J0 J → Fo wi_X12_need wj_X12_need I0 J0 (F_X12_need l1 I J) from key I J Sm.rf Sm.rf
  intro I0 J0 hI hJ
  unfold F_X12_need
  refine Fo.call (fr_X12_passes l1 I J) (by decide) (by decide) hI hJ (fun r1 I2 J3 hI2 hJ3 => ?_)
  refine Fo.ite ?_ ?_
  · refine Fo.call (fr_X12_fault (I2 m_self f_Model_at) I2 J3) (by decide) (by decide) hI2 hJ3 (fun _ I4 J5 hI4 hJ5 => ?_)
    exact Fo.some hI4 hJ5
  · exact Fo.some hI2 hJ3
theorem fr_X12_take_L147 (I0 : HI) (J0 : HJ) (I : HI) (kx165 : HJ → Option (Unit × HI × HJ)) (hI : Sm wi_X12_take I0 I) (hkx165 : ∀ (J1 : HJ), Sm wj_X12_take J0 J1 → Fo wi_X12_take wj_X12_take I0 J0 (kx165 J1)) : ∀ (K : Nat) (l2 : Int32) (J : HJ) (hJ : Sm wj_X12_take J0 J), Fo wi_X12_take wj_X12_take I0 J0 (F_X12_take_L147 I kx165 K l2 J) := by
  intro K
  induction K with
  | zero => intro l2 J hJ; exact Fo.none
  | succ K ih =>
    intro l2 J hJ
    rw [F_X12_take_L147]
    refine Fo.ite ?_ ?_
    · exact hkx165 _ hJ
    · refine Fo.gbx ?_
      refine Fo.luj rfl hJ (fun J20 hJ20 => ?_)
      exact ih _ _ hJ20
theorem fr_X12_take (l1 : Int32) (I : HI) (J : HJ) : Fo wi_X12_take wj_X12_take I J (F_X12_take l1 I J) := by
  suffices key : ∀ (I0 : HI) (J0 : HJ), Sm wi_X12_take I0 I → Sm wj_X12_take J0 J → Fo wi_X12_take wj_X12_take I0 J0 (F_X12_take l1 I J) from key I J Sm.rf Sm.rf
  intro I0 J0 hI hJ
  unfold F_X12_take
  refine Fo.gbx ?_
  refine Fo.ite ?_ ?_
  · refine Fo.gbx ?_
    refine Fo.gbx ?_
    refine Fo.gbx ?_
    refine Fo.lui rfl hI (fun I27 hI27 => ?_)
    exact Fo.some hI27 hJ
  · refine Fo.gbx ?_
    refine Fo.ite ?_ ?_
    · refine Fo.gbx ?_
      refine Fo.gbx ?_
      refine Fo.lui rfl hI (fun I23 hI23 => ?_)
      refine Fo.gbx ?_
      refine Fo.gbx ?_
      refine Fo.lui rfl hI23 (fun I24 hI24 => ?_)
      refine Fo.gbx ?_
      refine Fo.gbx ?_
      refine Fo.lui rfl hI24 (fun I25 hI25 => ?_)
      refine Fo.lui rfl hI25 (fun I26 hI26 => ?_)
      exact Fo.some hI26 hJ
    · refine Fo.gbx ?_
      refine Fo.lui rfl hI (fun I14 hI14 => ?_)
      refine Fo.lui rfl hI14 (fun I15 hI15 => ?_)
      refine Fo.lui rfl hI15 (fun I16 hI16 => ?_)
      refine Fo.lui rfl hI16 (fun I17 hI17 => ?_)
      refine Fo.lui rfl hI17 (fun I18 hI18 => ?_)
      refine Fo.lui rfl hI18 (fun I19 hI19 => ?_)
      refine fr_X12_take_L147 _ _ _ _ hI19 (fun J21 hJ21 => ?_) bgf _ _ hJ
      refine Fo.lui rfl hI19 (fun I22 hI22 => ?_)
      exact Fo.some hI22 hJ21
theorem fr_X12_board_L54 (I0 : HI) (J0 : HJ) (kx324 : Int32 → HI → HJ → Option (Int32 × HI × HJ)) (hkx324 : ∀ (y1 : Int32) (I1 : HI) (J1 : HJ), Sm wi_X12_board I0 I1 → Sm wj_X12_board J0 J1 → Fo wi_X12_board wj_X12_board I0 J0 (kx324 y1 I1 J1)) : ∀ (K : Nat) (l1 : Int32) (l2 : Int32) (l3 : Int32) (l4 : Int32) (I : HI) (J : HJ) (hI : Sm wi_X12_board I0 I) (hJ : Sm wj_X12_board J0 J), Fo wi_X12_board wj_X12_board I0 J0 (F_X12_board_L54 kx324 K l1 l2 l3 l4 I J) := by
  intro K
  induction K with
  | zero => intro l1 l2 l3 l4 I J hI hJ; exact Fo.none
  | succ K ih =>
    intro l1 l2 l3 l4 I J hI hJ
    rw [F_X12_board_L54]
    refine Fo.ite ?_ ?_
    · exact hkx324 _ _ _ hI hJ
    · refine Fo.ite ?_ ?_
      · refine Fo.lbv (fun x28 => ?_)
        refine Fo.call (fr_X12_passes (119 : Int32) I J) (by decide) (by decide) hI hJ (fun r29 I30 J31 hI30 hJ31 => ?_)
        refine Fo.jn (fun j => ∀ (y32 : Int32) (y33 : Int32) (I34 : HI) (J35 : HJ), Sm wi_X12_board I0 I34 → Sm wj_X12_board J0 J35 → Fo wi_X12_board wj_X12_board I0 J0 (j y32 y33 I34 J35)) (fun y32 y33 I34 J35 hI34 hJ35 => ?_) (fun j36 hj36 => ?_)
        · refine Fo.call (fr_X12_passes (59 : Int32) I34 J35) (by decide) (by decide) hI34 hJ35 (fun r37 I38 J39 hI38 hJ39 => ?_)
          exact ih _ _ _ _ _ _ hI38 hJ39
        · refine Fo.ite ?_ ?_
          · refine Fo.call (fr_X12_passes (114 : Int32) I30 J31) (by decide) (by decide) hI30 hJ31 (fun r40 I41 J42 hI41 hJ42 => ?_)
            refine Fo.ite ?_ ?_
            · refine Fo.gbx ?_
              refine Fo.lui rfl hI41 (fun I43 hI43 => ?_)
              refine Fo.jn (fun j => ∀ (I44 : HI) (J45 : HJ), Sm wi_X12_board I0 I44 → Sm wj_X12_board J0 J45 → Fo wi_X12_board wj_X12_board I0 J0 (j I44 J45)) (fun I44 J45 hI44 hJ45 => ?_) (fun j46 hj46 => ?_)
              · refine Fo.call (fr_X12_number (1 : Int32) (0 : Int32) (l2 - (1 : Int32)) I44 J45) (by decide) (by decide) hI44 hJ45 (fun r47 I48 J49 hI48 hJ49 => ?_)
                refine Fo.gbx ?_
                refine Fo.lui rfl hI48 (fun I50 hI50 => ?_)
                refine Fo.call (fr_X12_need (62 : Int32) I50 J49) (by decide) (by decide) hI50 hJ49 (fun _ I51 J52 hI51 hJ52 => ?_)
                refine Fo.call (fr_X12_number (1 : Int32) (0 : Int32) (l2 - (1 : Int32)) I51 J52) (by decide) (by decide) hI51 hJ52 (fun r53 I54 J55 hI54 hJ55 => ?_)
                refine Fo.gbx ?_
                refine Fo.lui rfl hI54 (fun I56 hI56 => ?_)
                refine Fo.jn (fun j => ∀ (I57 : HI) (J58 : HJ), Sm wi_X12_board I0 I57 → Sm wj_X12_board J0 J58 → Fo wi_X12_board wj_X12_board I0 J0 (j I57 J58)) (fun I57 J58 hI57 hJ58 => ?_) (fun j59 hj59 => ?_)
                · refine Fo.call (fr_X12_need (42 : Int32) I57 J58) (by decide) (by decide) hI57 hJ58 (fun _ I60 J61 hI60 hJ61 => ?_)
                  refine Fo.call (fr_X12_number (2 : Int32) (1 : Int32) (9 : Int32) I60 J61) (by decide) (by decide) hI60 hJ61 (fun r62 I63 J64 hI63 hJ64 => ?_)
                  refine Fo.gbx ?_
                  refine Fo.lui rfl hI63 (fun I65 hI65 => ?_)
                  exact hj36 _ _ _ _ hI65 hJ64
                · refine Fo.ite ?_ ?_
                  · refine Fo.gbx ?_
                    refine Fo.gbx ?_
                    refine Fo.ite ?_ ?_
                    · refine Fo.call (fr_X12_fault ((I56 m_self f_Model_at) - (1 : Int32)) I56 J55) (by decide) (by decide) hI56 hJ55 (fun _ I66 J67 hI66 hJ67 => ?_)
                      exact hj59 _ _ hI66 hJ67
                    · exact hj59 _ _ hI56 hJ55
                  · exact hj59 _ _ hI56 hJ55
              · refine Fo.ite ?_ ?_
                · refine Fo.call (fr_X12_fault (I43 m_self f_Model_at) I43 J42) (by decide) (by decide) hI43 hJ42 (fun _ I68 J69 hI68 hJ69 => ?_)
                  exact hj46 _ _ hI68 hJ69
                · exact hj46 _ _ hI43 hJ42
            · refine Fo.gbx ?_
              refine Fo.lui rfl hI41 (fun I70 hI70 => ?_)
              refine Fo.call (fr_X12_number (1 : Int32) (0 : Int32) (l2 - (1 : Int32)) I70 J42) (by decide) (by decide) hI70 hJ42 (fun r71 I72 J73 hI72 hJ73 => ?_)
              refine Fo.gbx ?_
              refine Fo.lui rfl hI72 (fun I74 hI74 => ?_)
              refine Fo.call (fr_X12_need (44 : Int32) I74 J73) (by decide) (by decide) hI74 hJ73 (fun _ I75 J76 hI75 hJ76 => ?_)
              refine Fo.call (fr_X12_number (2 : Int32) (0 : Int32) (4 : Int32) I75 J76) (by decide) (by decide) hI75 hJ76 (fun r77 I78 J79 hI78 hJ79 => ?_)
              refine Fo.gbx ?_
              refine Fo.lui rfl hI78 (fun I80 hI80 => ?_)
              exact hj36 _ _ _ _ hI80 hJ79
          · refine Fo.gbx ?_
            refine Fo.lui rfl hI30 (fun I81 hI81 => ?_)
            refine Fo.call (fr_X12_number (2 : Int32) (2 : Int32) (10 : Int32) I81 J31) (by decide) (by decide) hI81 hJ31 (fun r82 I83 J84 hI83 hJ84 => ?_)
            refine Fo.gbx ?_
            refine Fo.lui rfl hI83 (fun I85 hI85 => ?_)
            refine Fo.gbx ?_
            refine Fo.lbv (fun x86 => ?_)
            exact hj36 _ _ _ _ hI85 hJ84
      · exact hkx324 _ _ _ hI hJ
theorem fr_X12_board_L361 (I0 : HI) (J0 : HJ) (l1 : Int32) : ∀ (K : Nat) (l5 : Int32) (I : HI) (J : HJ) (hI : Sm wi_X12_board I0 I) (hJ : Sm wj_X12_board J0 J), Fo wi_X12_board wj_X12_board I0 J0 (F_X12_board_L361 l1 K l5 I J) := by
  intro K
  induction K with
  | zero => intro l5 I J hI hJ; exact Fo.none
  | succ K ih =>
    intro l5 I J hI hJ
    rw [F_X12_board_L361]
    refine Fo.ite ?_ ?_
    · exact Fo.some hI hJ
    · refine Fo.call (fr_X12_take ((4 : Int32) * l5) I J) (by decide) (by decide) hI hJ (fun _ I93 J94 hI93 hJ94 => ?_)
      exact ih _ _ _ hI93 hJ94
theorem fr_X12_board  (I : HI) (J : HJ) : Fo wi_X12_board wj_X12_board I J (F_X12_board  I J) := by
  suffices key : ∀ (I0 : HI) (J0 : HJ), Sm wi_X12_board I0 I → Sm wj_X12_board J0 J → Fo wi_X12_board wj_X12_board I0 J0 (F_X12_board  I J) from key I J Sm.rf Sm.rf
  intro I0 J0 hI hJ
  unfold F_X12_board
  refine Fo.lui rfl hI (fun I19 hI19 => ?_)
  refine Fo.lui rfl hI19 (fun I20 hI20 => ?_)
  refine Fo.lui rfl hI20 (fun I21 hI21 => ?_)
  refine Fo.lui rfl hI21 (fun I22 hI22 => ?_)
  refine Fo.lui rfl hI22 (fun I23 hI23 => ?_)
  refine Fo.lbv (fun x24 => ?_)
  refine Fo.lbv (fun x25 => ?_)
  refine Fo.jn (fun j => ∀ (y26 : Int32), Fo wi_X12_board wj_X12_board I0 J0 (j y26)) (fun y26 => ?_) (fun j27 hj27 => ?_)
  · refine fr_X12_board_L54 _ _ _ (fun y87 I88 J89 hI88 hJ89 => ?_) bgf _ _ _ _ _ _ hI23 hJ
    refine Fo.jn (fun j => ∀ (I90 : HI) (J91 : HJ), Sm wi_X12_board I0 I90 → Sm wj_X12_board J0 J91 → Fo wi_X12_board wj_X12_board I0 J0 (j I90 J91)) (fun I90 J91 hI90 hJ91 => ?_) (fun j92 hj92 => ?_)
    · refine Fo.ite ?_ ?_
      · refine fr_X12_board_L361 _ _ _ bgf _ _ _ hI90 hJ91
      · exact Fo.some hI90 hJ91
    · refine Fo.ite ?_ ?_
      · exact hj92 _ _ hI88 hJ89
      · refine Fo.call (fr_X12_fault (I88 m_self f_Model_at) I88 J89) (by decide) (by decide) hI88 hJ89 (fun _ I95 J96 hI95 hJ96 => ?_)
        exact hj92 _ _ hI95 hJ96
  · refine Fo.ite ?_ ?_
    · exact hj27 _
    · exact hj27 _
theorem fr_X12_set (l1 : Int32) (l2 : Int32) (I : HI) (J : HJ) : Fo wi_X12_set wj_X12_set I J (F_X12_set l1 l2 I J) := by
  suffices key : ∀ (I0 : HI) (J0 : HJ), Sm wi_X12_set I0 I → Sm wj_X12_set J0 J → Fo wi_X12_set wj_X12_set I0 J0 (F_X12_set l1 l2 I J) from key I J Sm.rf Sm.rf
  intro I0 J0 hI hJ
  unfold F_X12_set
  refine Fo.lui rfl hI (fun I4 hI4 => ?_)
  refine Fo.callp (fun r5 => ?_)
  refine Fo.ite ?_ ?_
  · exact Fo.some hI4 hJ
  · refine Fo.jn (fun j => ∀ (y6 : Int64) (y7 : Int64), Fo wi_X12_set wj_X12_set I0 J0 (j y6 y7)) (fun y6 y7 => ?_) (fun j8 hj8 => ?_)
    · refine Fo.jn (fun j => ∀ (y9 : Int64) (y10 : Int64) (y11 : Int64), Fo wi_X12_set wj_X12_set I0 J0 (j y9 y10 y11)) (fun y9 y10 y11 => ?_) (fun j12 hj12 => ?_)
      · refine Fo.callp (fun r13 => ?_)
        refine Fo.ite ?_ ?_
        · exact Fo.some hI4 hJ
        · refine Fo.gbx ?_
          refine Fo.lbv (fun x14 => ?_)
          refine Fo.gbx ?_
          refine Fo.lui rfl hI4 (fun I15 hI15 => ?_)
          exact Fo.some hI15 hJ
      · refine Fo.ite ?_ ?_
        · exact hj12 _ _ _
        · refine Fo.ite ?_ ?_
          · exact hj12 _ _ _
          · exact hj12 _ _ _
    · refine Fo.ite ?_ ?_
      · exact hj8 _ _
      · exact hj8 _ _
theorem fr_X12_lost  (I : HI) (J : HJ) : Fo wi_X12_lost wj_X12_lost I J (F_X12_lost  I J) := by
  suffices key : ∀ (I0 : HI) (J0 : HJ), Sm wi_X12_lost I0 I → Sm wj_X12_lost J0 J → Fo wi_X12_lost wj_X12_lost I0 J0 (F_X12_lost  I J) from key I J Sm.rf Sm.rf
  intro I0 J0 hI hJ
  unfold F_X12_lost
  refine Fo.lui rfl hI (fun I2 hI2 => ?_)
  exact Fo.some hI2 hJ
theorem fr_X12_lamp (l1 : Int32) (l2 : Int32) (I : HI) (J : HJ) : Fo wi_X12_lamp wj_X12_lamp I J (F_X12_lamp l1 l2 I J) := by
  suffices key : ∀ (I0 : HI) (J0 : HJ), Sm wi_X12_lamp I0 I → Sm wj_X12_lamp J0 J → Fo wi_X12_lamp wj_X12_lamp I0 J0 (F_X12_lamp l1 l2 I J) from key I J Sm.rf Sm.rf
  intro I0 J0 hI hJ
  unfold F_X12_lamp
  refine Fo.lui rfl hI (fun I2 hI2 => ?_)
  refine Fo.callp (fun r3 => ?_)
  refine Fo.jn (fun j => Fo wi_X12_lamp wj_X12_lamp I0 J0 (j)) ?_ (fun j4 hj4 => ?_)
  · refine Fo.call (fr_X12_lost I2 J) (by decide) (by decide) hI2 hJ (fun r5 I6 J7 hI6 hJ7 => ?_)
    exact Fo.some hI6 hJ7
  · refine Fo.ite ?_ ?_
    · exact hj4
    · refine Fo.callp (fun r8 => ?_)
      refine Fo.ite ?_ ?_
      · exact hj4
      · refine Fo.ite ?_ ?_
        · refine Fo.gbx ?_
          exact Fo.some hI2 hJ
        · refine Fo.ite ?_ ?_
          · refine Fo.gbx ?_
            exact Fo.some hI2 hJ
          · refine Fo.gbx ?_
            exact Fo.some hI2 hJ
theorem fr_X12_ohms (l1 : Int32) (I : HI) (J : HJ) : Fo wi_X12_ohms wj_X12_ohms I J (F_X12_ohms l1 I J) := by
  suffices key : ∀ (I0 : HI) (J0 : HJ), Sm wi_X12_ohms I0 I → Sm wj_X12_ohms J0 J → Fo wi_X12_ohms wj_X12_ohms I0 J0 (F_X12_ohms l1 I J) from key I J Sm.rf Sm.rf
  intro I0 J0 hI hJ
  unfold F_X12_ohms
  refine Fo.lui rfl hI (fun I2 hI2 => ?_)
  refine Fo.callp (fun r3 => ?_)
  refine Fo.ite ?_ ?_
  · exact Fo.some hI2 hJ
  · refine Fo.gbx ?_
    exact Fo.some hI2 hJ
theorem fr_X12_sheet_L46 (I0 : HI) (J0 : HJ) (l1 : Int32) (l2 : Int32) (l4 : Int32) (J : HJ) (kx138 : Int32 → HI → Option (Int32 × HI × HJ)) (hJ : Sm wj_X12_sheet J0 J) (hkx138 : ∀ (y5 : Int32) (I1 : HI), Sm wi_X12_sheet I0 I1 → Fo wi_X12_sheet wj_X12_sheet I0 J0 (kx138 y5 I1)) : ∀ (K : Nat) (l5 : Int32) (l6 : Int32) (l7 : Int32) (I : HI) (hI : Sm wi_X12_sheet I0 I), Fo wi_X12_sheet wj_X12_sheet I0 J0 (F_X12_sheet_L46 l1 l2 l4 J kx138 K l5 l6 l7 I) := by
  intro K
  induction K with
  | zero => intro l5 l6 l7 I hI; exact Fo.none
  | succ K ih =>
    intro l5 l6 l7 I hI
    rw [F_X12_sheet_L46]
    refine Fo.ite ?_ ?_
    · exact hkx138 _ _ hI
    · refine Fo.jn (fun j => ∀ (y9 : Int32), Fo wi_X12_sheet wj_X12_sheet I0 J0 (j y9)) (fun y9 => ?_) (fun j10 hj10 => ?_)
      · refine Fo.jn (fun j => ∀ (y11 : Int32) (y12 : Int32), Fo wi_X12_sheet wj_X12_sheet I0 J0 (j y11 y12)) (fun y11 y12 => ?_) (fun j13 hj13 => ?_)
        · refine Fo.gbx ?_
          refine Fo.lui rfl hI (fun I14 hI14 => ?_)
          refine Fo.gbx ?_
          refine Fo.lbv (fun x15 => ?_)
          refine Fo.lbv (fun x16 => ?_)
          exact ih _ _ _ _ hI14
        · refine Fo.jn (fun j => ∀ (y17 : Int32), Fo wi_X12_sheet wj_X12_sheet I0 J0 (j y17)) (fun y17 => ?_) (fun j18 hj18 => ?_)
          · exact hj13 _ _
          · refine Fo.ite ?_ ?_
            · exact hj18 _
            · refine Fo.ite ?_ ?_
              · exact hj13 _ _
              · exact hj18 _
      · refine Fo.ite ?_ ?_
        · exact hj10 _
        · refine Fo.ite ?_ ?_
          · exact hj10 _
          · exact hj10 _
theorem fr_X12_sheet (l1 : Int32) (l2 : Int32) (l3 : Int32) (l4 : Int32) (I : HI) (J : HJ) : Fo wi_X12_sheet wj_X12_sheet I J (F_X12_sheet l1 l2 l3 l4 I J) := by
  suffices key : ∀ (I0 : HI) (J0 : HJ), Sm wi_X12_sheet I0 I → Sm wj_X12_sheet J0 J → Fo wi_X12_sheet wj_X12_sheet I0 J0 (F_X12_sheet l1 l2 l3 l4 I J) from key I J Sm.rf Sm.rf
  intro I0 J0 hI hJ
  unfold F_X12_sheet
  refine Fo.lui rfl hI (fun I6 hI6 => ?_)
  refine Fo.callp (fun r7 => ?_)
  refine Fo.ite ?_ ?_
  · exact Fo.some hI6 hJ
  · refine Fo.ite ?_ ?_
    · refine Fo.jn (fun j => Fo wi_X12_sheet wj_X12_sheet I0 J0 (j)) ?_ (fun j8 hj8 => ?_)
      · refine fr_X12_sheet_L46 _ _ _ _ _ _ _ hJ (fun y19 I20 hI20 => ?_) bgf _ _ _ _ hI6
        refine Fo.ite ?_ ?_
        · exact Fo.some hI20 hJ
        · exact Fo.some hI20 hJ
      · refine Fo.ite ?_ ?_
        · exact hj8
        · refine Fo.ite ?_ ?_
          · exact hj8
          · exact Fo.some hI6 hJ
    · exact Fo.some hI6 hJ
theorem fr_X12_change (l1 : Int32) (l2 : Int32) (I : HI) (J : HJ) : Fo wi_X12_change wj_X12_change I J (F_X12_change l1 l2 I J) := by
  suffices key : ∀ (I0 : HI) (J0 : HJ), Sm wi_X12_change I0 I → Sm wj_X12_change J0 J → Fo wi_X12_change wj_X12_change I0 J0 (F_X12_change l1 l2 I J) from key I J Sm.rf Sm.rf
  intro I0 J0 hI hJ
  unfold F_X12_change
  refine Fo.gbx ?_
  refine Fo.lbv (fun x7 => ?_)
  refine Fo.gbx ?_
  refine Fo.lbv (fun x8 => ?_)
  refine Fo.gbx ?_
  refine Fo.gbx ?_
  refine Fo.lui rfl hI (fun I9 hI9 => ?_)
  refine Fo.gbx ?_
  refine Fo.gbx ?_
  refine Fo.lui rfl hI9 (fun I10 hI10 => ?_)
  refine Fo.gbx ?_
  refine Fo.lui rfl hI10 (fun I11 hI11 => ?_)
  refine Fo.gbx ?_
  refine Fo.lui rfl hI11 (fun I12 hI12 => ?_)
  exact Fo.some hI12 hJ
theorem fr_X12_swap (l1 : Int32) (l2 : Int32) (I : HI) (J : HJ) : Fo wi_X12_swap wj_X12_swap I J (F_X12_swap l1 l2 I J) := by
  suffices key : ∀ (I0 : HI) (J0 : HJ), Sm wi_X12_swap I0 I → Sm wj_X12_swap J0 J → Fo wi_X12_swap wj_X12_swap I0 J0 (F_X12_swap l1 l2 I J) from key I J Sm.rf Sm.rf
  intro I0 J0 hI hJ
  unfold F_X12_swap
  refine Fo.lui rfl hI (fun I2 hI2 => ?_)
  refine Fo.callp (fun r3 => ?_)
  refine Fo.ite ?_ ?_
  · exact Fo.some hI2 hJ
  · refine Fo.callp (fun r4 => ?_)
    refine Fo.ite ?_ ?_
    · exact Fo.some hI2 hJ
    · refine Fo.ite ?_ ?_
      · exact Fo.some hI2 hJ
      · refine Fo.call (fr_X12_change l1 l2 I2 J) (by decide) (by decide) hI2 hJ (fun _ I5 J6 hI5 hJ6 => ?_)
        exact Fo.some hI5 hJ6
theorem fr_X12_findFault_L62 (I0 : HI) (J0 : HJ) (J : HJ) (kx104 : Int32 → HI → Option (Unit × HI × HJ)) (hJ : Sm wj_X12_findFault J0 J) (hkx104 : ∀ (y3 : Int32) (I1 : HI), Sm wi_X12_findFault I0 I1 → Fo wi_X12_findFault wj_X12_findFault I0 J0 (kx104 y3 I1)) : ∀ (K : Nat) (l3 : Int32) (I : HI) (hI : Sm wi_X12_findFault I0 I), Fo wi_X12_findFault wj_X12_findFault I0 J0 (F_X12_findFault_L62 J kx104 K l3 I) := by
  intro K
  induction K with
  | zero => intro l3 I hI; exact Fo.none
  | succ K ih =>
    intro l3 I hI
    rw [F_X12_findFault_L62]
    refine Fo.ite ?_ ?_
    · exact hkx104 _ _ hI
    · refine Fo.lbv (fun x14 => ?_)
      refine Fo.lui rfl hI (fun I15 hI15 => ?_)
      exact ih _ _ hI15
theorem fr_X12_findFault (l1 : Int32) (I : HI) (J : HJ) : Fo wi_X12_findFault wj_X12_findFault I J (F_X12_findFault l1 I J) := by
  suffices key : ∀ (I0 : HI) (J0 : HJ), Sm wi_X12_findFault I0 I → Sm wj_X12_findFault J0 J → Fo wi_X12_findFault wj_X12_findFault I0 J0 (F_X12_findFault l1 I J) from key I J Sm.rf Sm.rf
  intro I0 J0 hI hJ
  unfold F_X12_findFault
  refine Fo.callp (fun r7 => ?_)
  refine Fo.jn (fun j => ∀ (y8 : Int32), Fo wi_X12_findFault wj_X12_findFault I0 J0 (j y8)) (fun y8 => ?_) (fun j9 hj9 => ?_)
  · refine Fo.lui rfl hI (fun I10 hI10 => ?_)
    refine Fo.lui rfl hI10 (fun I11 hI11 => ?_)
    refine Fo.ite ?_ ?_
    · refine Fo.callp (fun r12 => ?_)
      refine Fo.lbv (fun x13 => ?_)
      refine fr_X12_findFault_L62 _ _ _ _ hJ (fun y16 I17 hI17 => ?_) bgf _ _ hI11
      refine Fo.lui rfl hI17 (fun I18 hI18 => ?_)
      exact Fo.some hI18 hJ
    · exact Fo.some hI11 hJ
  · refine Fo.ite ?_ ?_
    · exact hj9 _
    · refine Fo.ite ?_ ?_
      · exact hj9 _
      · refine Fo.ite ?_ ?_
        · refine Fo.callp (fun r19 => ?_)
          exact hj9 _
        · exact hj9 _
theorem fr_X12_lay_L52 (I0 : HI) (J0 : HJ) (l3 : Int32) (J : HJ) (kx235 : Int32 → HI → Option (Unit × HI × HJ)) (hJ : Sm wj_X12_lay J0 J) (hkx235 : ∀ (y2 : Int32) (I1 : HI), Sm wi_X12_lay I0 I1 → Fo wi_X12_lay wj_X12_lay I0 J0 (kx235 y2 I1)) : ∀ (K : Nat) (l2 : Int32) (l4 : Int32) (I : HI) (hI : Sm wi_X12_lay I0 I), Fo wi_X12_lay wj_X12_lay I0 J0 (F_X12_lay_L52 l3 J kx235 K l2 l4 I) := by
  intro K
  induction K with
  | zero => intro l2 l4 I hI; exact Fo.none
  | succ K ih =>
    intro l2 l4 I hI
    rw [F_X12_lay_L52]
    refine Fo.ite ?_ ?_
    · exact hkx235 _ _ hI
    · refine Fo.gbx ?_
      refine Fo.lbv (fun x21 => ?_)
      refine Fo.gbx ?_
      refine Fo.lbv (fun x22 => ?_)
      refine Fo.jn (fun j => ∀ (y23 : Int32) (y24 : Int32), Fo wi_X12_lay wj_X12_lay I0 J0 (j y23 y24)) (fun y23 y24 => ?_) (fun j25 hj25 => ?_)
      · refine Fo.jn (fun j => ∀ (y26 : Int32) (I27 : HI), Sm wi_X12_lay I0 I27 → Fo wi_X12_lay wj_X12_lay I0 J0 (j y26 I27)) (fun y26 I27 hI27 => ?_) (fun j28 hj28 => ?_)
        · exact ih _ _ _ hI27
        · refine Fo.jn (fun j => Fo wi_X12_lay wj_X12_lay I0 J0 (j)) ?_ (fun j29 hj29 => ?_)
          · refine Fo.jn (fun j => ∀ (y30 : Int32) (y31 : Int32), Fo wi_X12_lay wj_X12_lay I0 J0 (j y30 y31)) (fun y30 y31 => ?_) (fun j32 hj32 => ?_)
            · refine Fo.ite ?_ ?_
              · refine Fo.gbx ?_
                refine Fo.lui rfl hI (fun I33 hI33 => ?_)
                refine Fo.gbx ?_
                refine Fo.lui rfl hI33 (fun I34 hI34 => ?_)
                exact hj28 _ _ hI34
              · exact hj28 _ _ hI
            · refine Fo.ite ?_ ?_
              · refine Fo.jn (fun j => ∀ (y35 : Int32), Fo wi_X12_lay wj_X12_lay I0 J0 (j y35)) (fun y35 => ?_) (fun j36 hj36 => ?_)
                · refine Fo.jn (fun j => ∀ (y37 : Int32), Fo wi_X12_lay wj_X12_lay I0 J0 (j y37)) (fun y37 => ?_) (fun j38 hj38 => ?_)
                  · refine Fo.ite ?_ ?_
                    · exact hj28 _ _ hI
                    · exact hj32 _ _
                  · refine Fo.ite ?_ ?_
                    · exact hj38 _
                    · exact hj38 _
                · refine Fo.ite ?_ ?_
                  · exact hj36 _
                  · exact hj36 _
              · exact hj32 _ _
          · refine Fo.ite ?_ ?_
            · refine Fo.ite ?_ ?_
              · exact hj28 _ _ hI
              · refine Fo.ite ?_ ?_
                · exact hj28 _ _ hI
                · exact hj29
            · exact hj29
      · refine Fo.ite ?_ ?_
        · refine Fo.ite ?_ ?_
          · refine Fo.gbx ?_
            refine Fo.lbv (fun x39 => ?_)
            refine Fo.gbx ?_
            refine Fo.lbv (fun x40 => ?_)
            exact hj25 _ _
          · exact hj25 _ _
        · exact hj25 _ _
theorem fr_X12_lay_L34 (I0 : HI) (J0 : HJ) (J : HJ) (kx241 : Int32 → HI → Option (Unit × HI × HJ)) (hJ : Sm wj_X12_lay J0 J) (hkx241 : ∀ (y2 : Int32) (I1 : HI), Sm wi_X12_lay I0 I1 → Fo wi_X12_lay wj_X12_lay I0 J0 (kx241 y2 I1)) : ∀ (K : Nat) (l2 : Int32) (l3 : Int32) (I : HI) (hI : Sm wi_X12_lay I0 I), Fo wi_X12_lay wj_X12_lay I0 J0 (F_X12_lay_L34 J kx241 K l2 l3 I) := by
  intro K
  induction K with
  | zero => intro l2 l3 I hI; exact Fo.none
  | succ K ih =>
    intro l2 l3 I hI
    rw [F_X12_lay_L34]
    refine Fo.ite ?_ ?_
    · exact hkx241 _ _ hI
    · refine Fo.gbx ?_
      refine Fo.lui rfl hI (fun I20 hI20 => ?_)
      refine fr_X12_lay_L52 _ _ _ _ _ hJ (fun y41 I42 hI42 => ?_) bgf _ _ _ hI20
      exact ih _ _ _ hI42
theorem fr_X12_lay (l1 : Int32) (I : HI) (J : HJ) : Fo wi_X12_lay wj_X12_lay I J (F_X12_lay l1 I J) := by
  suffices key : ∀ (I0 : HI) (J0 : HJ), Sm wi_X12_lay I0 I → Sm wj_X12_lay J0 J → Fo wi_X12_lay wj_X12_lay I0 J0 (F_X12_lay l1 I J) from key I J Sm.rf Sm.rf
  intro I0 J0 hI hJ
  unfold F_X12_lay
  refine Fo.call (fr_X12_findFault l1 I J) (by decide) (by decide) hI hJ (fun _ I14 J15 hI14 hJ15 => ?_)
  refine Fo.callp (fun r16 => ?_)
  refine Fo.lui rfl hI14 (fun I17 hI17 => ?_)
  refine Fo.lui rfl hI17 (fun I18 hI18 => ?_)
  refine Fo.lui rfl hI18 (fun I19 hI19 => ?_)
  refine fr_X12_lay_L34 _ _ _ _ hJ15 (fun y43 I44 hI44 => ?_) bgf _ _ _ hI19
  refine Fo.gbx ?_
  refine Fo.lui rfl hI44 (fun I45 hI45 => ?_)
  exact Fo.some hI45 hJ15
theorem fr_X12_begin (l1 : Int32) (l2 : Int32) (I : HI) (J : HJ) : Fo wi_X12_begin wj_X12_begin I J (F_X12_begin l1 l2 I J) := by
  suffices key : ∀ (I0 : HI) (J0 : HJ), Sm wi_X12_begin I0 I → Sm wj_X12_begin J0 J → Fo wi_X12_begin wj_X12_begin I0 J0 (F_X12_begin l1 l2 I J) from key I J Sm.rf Sm.rf
  intro I0 J0 hI hJ
  unfold F_X12_begin
  refine Fo.lui rfl hI (fun I10 hI10 => ?_)
  refine Fo.lui rfl hI10 (fun I11 hI11 => ?_)
  refine Fo.jn (fun j => ∀ (I12 : HI), Sm wi_X12_begin I0 I12 → Fo wi_X12_begin wj_X12_begin I0 J0 (j I12)) (fun I12 hI12 => ?_) (fun j13 hj13 => ?_)
  · refine Fo.ite ?_ ?_
    · refine Fo.callp (fun r14 => ?_)
      refine Fo.callp (fun r15 => ?_)
      refine Fo.jn (fun j => Fo wi_X12_begin wj_X12_begin I0 J0 (j)) ?_ (fun j16 hj16 => ?_)
      · refine Fo.callp (fun r17 => ?_)
        refine Fo.jn (fun j => Fo wi_X12_begin wj_X12_begin I0 J0 (j)) ?_ (fun j18 hj18 => ?_)
        · refine Fo.jn (fun j => ∀ (y19 : Int32), Fo wi_X12_begin wj_X12_begin I0 J0 (j y19)) (fun y19 => ?_) (fun j20 hj20 => ?_)
          · refine Fo.gbx ?_
            refine Fo.lui rfl hI12 (fun I21 hI21 => ?_)
            refine Fo.callp (fun r22 => ?_)
            refine Fo.jn (fun j => ∀ (I23 : HI), Sm wi_X12_begin I0 I23 → Fo wi_X12_begin wj_X12_begin I0 J0 (j I23)) (fun I23 hI23 => ?_) (fun j24 hj24 => ?_)
            · refine Fo.callp (fun r25 => ?_)
              refine Fo.jn (fun j => ∀ (I26 : HI), Sm wi_X12_begin I0 I26 → Fo wi_X12_begin wj_X12_begin I0 J0 (j I26)) (fun I26 hI26 => ?_) (fun j27 hj27 => ?_)
              · refine Fo.lui rfl hI26 (fun I28 hI28 => ?_)
                refine Fo.lui rfl hI28 (fun I29 hI29 => ?_)
                exact Fo.some hI29 hJ
              · refine Fo.ite ?_ ?_
                · exact hj27 _ hI23
                · refine Fo.lui rfl hI23 (fun I30 hI30 => ?_)
                  exact hj27 _ hI30
            · refine Fo.ite ?_ ?_
              · exact hj24 _ hI21
              · refine Fo.lui rfl hI21 (fun I31 hI31 => ?_)
                exact hj24 _ hI31
          · refine Fo.ite ?_ ?_
            · exact hj20 _
            · exact hj20 _
        · refine Fo.ite ?_ ?_
          · exact hj18
          · refine Fo.callp (fun r32 => ?_)
            refine Fo.ite ?_ ?_
            · exact hj18
            · exact Fo.some hI12 hJ
      · refine Fo.ite ?_ ?_
        · exact hj16
        · refine Fo.callp (fun r33 => ?_)
          refine Fo.ite ?_ ?_
          · exact hj16
          · exact Fo.some hI12 hJ
    · exact Fo.some hI12 hJ
  · refine Fo.ite ?_ ?_
    · refine Fo.lui rfl hI11 (fun I34 hI34 => ?_)
      refine Fo.lui rfl hI34 (fun I35 hI35 => ?_)
      exact hj13 _ hI35
    · exact hj13 _ hI11
theorem fr_X12_arrive_L30 (I0 : HI) (J0 : HJ) (l1 : Int32) (l2 : Int32) (l3 : Int32) (l5 : Int64) (kx140 : Int32 → HI → HJ → Option (Unit × HI × HJ)) (hkx140 : ∀ (y7 : Int32) (I1 : HI) (J1 : HJ), Sm wi_X12_arrive I0 I1 → Sm wj_X12_arrive J0 J1 → Fo wi_X12_arrive wj_X12_arrive I0 J0 (kx140 y7 I1 J1)) : ∀ (K : Nat) (l7 : Int32) (l8 : Int32) (I : HI) (J : HJ) (hI : Sm wi_X12_arrive I0 I) (hJ : Sm wj_X12_arrive J0 J), Fo wi_X12_arrive wj_X12_arrive I0 J0 (F_X12_arrive_L30 l1 l2 l3 l5 kx140 K l7 l8 I J) := by
  intro K
  induction K with
  | zero => intro l7 l8 I J hI hJ; exact Fo.none
  | succ K ih =>
    intro l7 l8 I J hI hJ
    rw [F_X12_arrive_L30]
    refine Fo.ite ?_ ?_
    · exact hkx140 _ _ _ hI hJ
    · refine Fo.gbx ?_
      refine Fo.gbx ?_
      refine Fo.gbx ?_
      refine Fo.luj rfl hJ (fun J13 hJ13 => ?_)
      refine Fo.jn (fun j => ∀ (y14 : Int32), Fo wi_X12_arrive wj_X12_arrive I0 J0 (j y14)) (fun y14 => ?_) (fun j15 hj15 => ?_)
      · refine Fo.jn (fun j => ∀ (I16 : HI) (J17 : HJ), Sm wi_X12_arrive I0 I16 → Sm wj_X12_arrive J0 J17 → Fo wi_X12_arrive wj_X12_arrive I0 J0 (j I16 J17)) (fun I16 J17 hI16 hJ17 => ?_) (fun j18 hj18 => ?_)
        · exact ih _ _ _ _ hI16 hJ17
        · refine Fo.ite ?_ ?_
          · exact hj18 _ _ hI hJ13
          · refine Fo.gbx ?_
            refine Fo.gbx ?_
            refine Fo.gbx ?_
            refine Fo.lui rfl hI (fun I19 hI19 => ?_)
            refine Fo.gbx ?_
            refine Fo.gbx ?_
            refine Fo.gbx ?_
            refine Fo.gbx ?_
            refine Fo.luj rfl hJ13 (fun J20 hJ20 => ?_)
            exact hj18 _ _ hI19 hJ20
      · refine Fo.jn (fun j => Fo wi_X12_arrive wj_X12_arrive I0 J0 (j)) ?_ (fun j21 hj21 => ?_)
        · exact hj15 _
        · refine Fo.ite ?_ ?_
          · refine Fo.gbx ?_
            refine Fo.ite ?_ ?_
            · exact hj21
            · exact hj15 _
          · exact hj21
theorem fr_X12_arrive_L200 (I0 : HI) (J0 : HJ) (l3 : Int32) (J : HJ) (hJ : Sm wj_X12_arrive J0 J) : ∀ (K : Nat) (l8 : Int32) (I : HI) (hI : Sm wi_X12_arrive I0 I), Fo wi_X12_arrive wj_X12_arrive I0 J0 (F_X12_arrive_L200 l3 J K l8 I) := by
  intro K
  induction K with
  | zero => intro l8 I hI; exact Fo.none
  | succ K ih =>
    intro l8 I hI
    rw [F_X12_arrive_L200]
    refine Fo.ite ?_ ?_
    · exact Fo.some hI hJ
    · refine Fo.gbx ?_
      refine Fo.gbx ?_
      refine Fo.lui rfl hI (fun I30 hI30 => ?_)
      exact ih _ _ hI30
theorem fr_X12_arrive (l1 : Int32) (l2 : Int32) (l3 : Int32) (l4 : Int32) (I : HI) (J : HJ) : Fo wi_X12_arrive wj_X12_arrive I J (F_X12_arrive l1 l2 l3 l4 I J) := by
  suffices key : ∀ (I0 : HI) (J0 : HJ), Sm wi_X12_arrive I0 I → Sm wj_X12_arrive J0 J → Fo wi_X12_arrive wj_X12_arrive I0 J0 (F_X12_arrive l1 l2 l3 l4 I J) from key I J Sm.rf Sm.rf
  intro I0 J0 hI hJ
  unfold F_X12_arrive
  refine Fo.callp (fun r10 => ?_)
  refine Fo.callp (fun r11 => ?_)
  refine Fo.gzl ?_
  refine Fo.lbv (fun x12 => ?_)
  refine fr_X12_arrive_L30 _ _ _ _ _ _ _ (fun y22 I23 J24 hI23 hJ24 => ?_) bgf _ _ _ _ hI hJ
  refine Fo.ite ?_ ?_
  · exact Fo.some hI23 hJ24
  · refine Fo.gbx ?_
    refine Fo.gbx ?_
    refine Fo.luj rfl hJ24 (fun J25 hJ25 => ?_)
    refine Fo.gbx ?_
    refine Fo.gbx ?_
    refine Fo.luj rfl hJ25 (fun J26 hJ26 => ?_)
    refine Fo.ite ?_ ?_
    · exact Fo.some hI23 hJ26
    · refine Fo.callp (fun r27 => ?_)
      refine Fo.ite ?_ ?_
      · exact Fo.some hI23 hJ26
      · refine Fo.luj rfl hJ26 (fun J28 hJ28 => ?_)
        refine Fo.lui rfl hI23 (fun I29 hI29 => ?_)
        refine fr_X12_arrive_L200 _ _ _ _ hJ28 bgf _ _ hI29
theorem fr_X12_goOn_L8 (rc : Int32 → Int32 → Int32 → Int32 → Int32 → HI → HJ → Option (Unit × HI × HJ)) (hrc : ∀ (a0 : Int32) (a1 : Int32) (a2 : Int32) (a3 : Int32) (a4 : Int32) (I : HI) (J : HJ), Fo wi_X12_goOn wj_X12_goOn I J (rc a0 a1 a2 a3 a4 I J)) (I0 : HI) (J0 : HJ) (l1 : Int32) (l2 : Int32) (l3 : Int32) (l4 : Int32) (l5 : Int32) : ∀ (K : Nat) (l6 : Int32) (I : HI) (J : HJ) (hI : Sm wi_X12_goOn I0 I) (hJ : Sm wj_X12_goOn J0 J), Fo wi_X12_goOn wj_X12_goOn I0 J0 (F_X12_goOn_L8 rc l1 l2 l3 l4 l5 K l6 I J) := by
  intro K
  induction K with
  | zero => intro l6 I J hI hJ; exact Fo.none
  | succ K ih =>
    intro l6 I J hI hJ
    rw [F_X12_goOn_L8]
    refine Fo.gbx ?_
    refine Fo.ite ?_ ?_
    · exact Fo.some hI hJ
    · refine Fo.gbx ?_
      refine Fo.lbv (fun x6 => ?_)
      refine Fo.gbx ?_
      refine Fo.gbx ?_
      refine Fo.lbv (fun x7 => ?_)
      refine Fo.callp (fun r8 => ?_)
      refine Fo.jn (fun j => ∀ (I9 : HI) (J10 : HJ), Sm wi_X12_goOn I0 I9 → Sm wj_X12_goOn J0 J10 → Fo wi_X12_goOn wj_X12_goOn I0 J0 (j I9 J10)) (fun I9 J10 hI9 hJ10 => ?_) (fun j11 hj11 => ?_)
      · exact ih _ _ _ hI9 hJ10
      · refine Fo.ite ?_ ?_
        · refine Fo.gbx ?_
          refine Fo.ite ?_ ?_
          · refine Fo.gbx ?_
            refine Fo.gbx ?_
            refine Fo.lui rfl hI (fun I12 hI12 => ?_)
            refine Fo.callp (fun r13 => ?_)
            refine Fo.ite ?_ ?_
            · refine Fo.gbx ?_
              refine Fo.ite ?_ ?_
              · exact hj11 _ _ hI12 hJ
              · refine Fo.call (hrc l1 x6 (l3 + (1 : Int32)) x7 (l5 ||| (oshl (1 : Int32) x6)) I12 J) (by decide) (by decide) hI12 hJ (fun _ I14 J15 hI14 hJ15 => ?_)
                exact hj11 _ _ hI14 hJ15
            · refine Fo.gbx ?_
              refine Fo.call (fr_X12_arrive l1 x6 (l3 + (1 : Int32)) ((I12 m_sets (Int32.toNatClampNeg (0 : Int32))) - x7) I12 J) (by decide) (by decide) hI12 hJ (fun _ I16 J17 hI16 hJ17 => ?_)
              exact hj11 _ _ hI16 hJ17
          · exact hj11 _ _ hI hJ
        · exact hj11 _ _ hI hJ
theorem fr_X12_goOn_B (rc : Int32 → Int32 → Int32 → Int32 → Int32 → HI → HJ → Option (Unit × HI × HJ)) (hrc : ∀ (a0 : Int32) (a1 : Int32) (a2 : Int32) (a3 : Int32) (a4 : Int32) (I : HI) (J : HJ), Fo wi_X12_goOn wj_X12_goOn I J (rc a0 a1 a2 a3 a4 I J)) (l1 : Int32) (l2 : Int32) (l3 : Int32) (l4 : Int32) (l5 : Int32) (I : HI) (J : HJ) : Fo wi_X12_goOn wj_X12_goOn I J (F_X12_goOn_B rc l1 l2 l3 l4 l5 I J) := by
  suffices key : ∀ (I0 : HI) (J0 : HJ), Sm wi_X12_goOn I0 I → Sm wj_X12_goOn J0 J → Fo wi_X12_goOn wj_X12_goOn I0 J0 (F_X12_goOn_B rc l1 l2 l3 l4 l5 I J) from key I J Sm.rf Sm.rf
  intro I0 J0 hI hJ
  unfold F_X12_goOn_B
  refine Fo.gbx ?_
  refine Fo.lbv (fun x5 => ?_)
  refine fr_X12_goOn_L8 rc hrc _ _ _ _ _ _ _ bgf _ _ _ hI hJ
theorem fr_X12_goOn : ∀ (n : Nat) (l1 : Int32) (l2 : Int32) (l3 : Int32) (l4 : Int32) (l5 : Int32) (I : HI) (J : HJ), Fo wi_X12_goOn wj_X12_goOn I J (F_X12_goOn n l1 l2 l3 l4 l5 I J) := by
  intro n
  induction n with
  | zero => intro l1 l2 l3 l4 l5 I J; exact Fo.none
  | succ n ih => intro l1 l2 l3 l4 l5 I J; exact fr_X12_goOn_B (F_X12_goOn n) ih l1 l2 l3 l4 l5 I J
theorem fr_X12_shine_L2 (I0 : HI) (J0 : HJ) (l1 : Int32) (l2 : Int32) (kx47 : HI → HJ → Option (Unit × HI × HJ)) (hkx47 : ∀ (I1 : HI) (J1 : HJ), Sm wi_X12_shine I0 I1 → Sm wj_X12_shine J0 J1 → Fo wi_X12_shine wj_X12_shine I0 J0 (kx47 I1 J1)) : ∀ (K : Nat) (l3 : Int32) (I : HI) (J : HJ) (hI : Sm wi_X12_shine I0 I) (hJ : Sm wj_X12_shine J0 J), Fo wi_X12_shine wj_X12_shine I0 J0 (F_X12_shine_L2 l1 l2 kx47 K l3 I J) := by
  intro K
  induction K with
  | zero => intro l3 I J hI hJ; exact Fo.none
  | succ K ih =>
    intro l3 I J hI hJ
    rw [F_X12_shine_L2]
    refine Fo.ite ?_ ?_
    · exact hkx47 _ _ hI hJ
    · refine Fo.gbx ?_
      refine Fo.luj rfl hJ (fun J5 hJ5 => ?_)
      refine Fo.jn (fun j => ∀ (I6 : HI) (J7 : HJ), Sm wi_X12_shine I0 I6 → Sm wj_X12_shine J0 J7 → Fo wi_X12_shine wj_X12_shine I0 J0 (j I6 J7)) (fun I6 J7 hI6 hJ7 => ?_) (fun j8 hj8 => ?_)
      · exact ih _ _ _ hI6 hJ7
      · refine Fo.ite ?_ ?_
        · exact hj8 _ _ hI hJ5
        · refine Fo.gbx ?_
          refine Fo.lui rfl hI (fun I9 hI9 => ?_)
          refine Fo.gbx ?_
          refine Fo.luj rfl hJ5 (fun J10 hJ10 => ?_)
          exact hj8 _ _ hI9 hJ10
theorem fr_X12_shine_L49 (I0 : HI) (J0 : HJ) (l1 : Int32) (l2 : Int32) (I : HI) (kx77 : HJ → Option (Unit × HI × HJ)) (hI : Sm wi_X12_shine I0 I) (hkx77 : ∀ (J1 : HJ), Sm wj_X12_shine J0 J1 → Fo wi_X12_shine wj_X12_shine I0 J0 (kx77 J1)) : ∀ (K : Nat) (l3 : Int32) (J : HJ) (hJ : Sm wj_X12_shine J0 J), Fo wi_X12_shine wj_X12_shine I0 J0 (F_X12_shine_L49 l1 l2 I kx77 K l3 J) := by
  intro K
  induction K with
  | zero => intro l3 J hJ; exact Fo.none
  | succ K ih =>
    intro l3 J hJ
    rw [F_X12_shine_L49]
    refine Fo.ite ?_ ?_
    · exact hkx77 _ hJ
    · refine Fo.ite ?_ ?_
      · exact hkx77 _ hJ
      · refine Fo.gbx ?_
        refine Fo.luj rfl hJ (fun J13 hJ13 => ?_)
        exact ih _ _ hJ13
theorem fr_X12_shine_L89 (I0 : HI) (J0 : HJ)  : ∀ (K : Nat) (l3 : Int32) (I : HI) (J : HJ) (hI : Sm wi_X12_shine I0 I) (hJ : Sm wj_X12_shine J0 J), Fo wi_X12_shine wj_X12_shine I0 J0 (F_X12_shine_L89 K l3 I J) := by
  intro K
  induction K with
  | zero => intro l3 I J hI hJ; exact Fo.none
  | succ K ih =>
    intro l3 I J hI hJ
    rw [F_X12_shine_L89]
    refine Fo.ite ?_ ?_
    · exact Fo.some hI hJ
    · refine Fo.callp (fun r18 => ?_)
      refine Fo.jn (fun j => ∀ (I19 : HI) (J20 : HJ), Sm wi_X12_shine I0 I19 → Sm wj_X12_shine J0 J20 → Fo wi_X12_shine wj_X12_shine I0 J0 (j I19 J20)) (fun I19 J20 hI19 hJ20 => ?_) (fun j21 hj21 => ?_)
      · exact ih _ _ _ hI19 hJ20
      · refine Fo.ite ?_ ?_
        · exact hj21 _ _ hI hJ
        · refine Fo.call (fr_X12_goOn 20 l3 l3 (0 : Int32) (0 : Int32) (oshl (1 : Int32) l3) I J) (by decide) (by decide) hI hJ (fun _ I22 J23 hI22 hJ23 => ?_)
          exact hj21 _ _ hI22 hJ23
theorem fr_X12_shine (l1 : Int32) (l2 : Int32) (I : HI) (J : HJ) : Fo wi_X12_shine wj_X12_shine I J (F_X12_shine l1 l2 I J) := by
  suffices key : ∀ (I0 : HI) (J0 : HJ), Sm wi_X12_shine I0 I → Sm wj_X12_shine J0 J → Fo wi_X12_shine wj_X12_shine I0 J0 (F_X12_shine l1 l2 I J) from key I J Sm.rf Sm.rf
  intro I0 J0 hI hJ
  unfold F_X12_shine
  refine fr_X12_shine_L2 _ _ _ _ _ (fun I11 J12 hI11 hJ12 => ?_) bgf _ _ _ hI hJ
  refine fr_X12_shine_L49 _ _ _ _ _ _ hI11 (fun J14 hJ14 => ?_) bgf _ _ hJ12
  refine Fo.call (fr_X12_begin l1 l2 I11 J14) (by decide) (by decide) hI11 hJ14 (fun r15 I16 J17 hI16 hJ17 => ?_)
  refine Fo.ite ?_ ?_
  · exact Fo.some hI16 hJ17
  · refine fr_X12_shine_L89 _ _ bgf _ _ _ hI16 hJ17
theorem fr_X12_glowing_L11 (I0 : HI) (J0 : HJ) (I : HI) (J : HJ) (hI : Sm wi_X12_glowing I0 I) (hJ : Sm wj_X12_glowing J0 J) : ∀ (K : Nat) (l3 : Int64) (l5 : Int32), Fo wi_X12_glowing wj_X12_glowing I0 J0 (F_X12_glowing_L11 I J K l3 l5) := by
  intro K
  induction K with
  | zero => intro l3 l5; exact Fo.none
  | succ K ih =>
    intro l3 l5
    rw [F_X12_glowing_L11]
    refine Fo.ite ?_ ?_
    · exact Fo.some hI hJ
    · refine Fo.callp (fun r4 => ?_)
      refine Fo.jn (fun j => ∀ (y5 : Int64) (y6 : Int64), Fo wi_X12_glowing wj_X12_glowing I0 J0 (j y5 y6)) (fun y5 y6 => ?_) (fun j7 hj7 => ?_)
      · refine Fo.lbv (fun x8 => ?_)
        exact ih _ _
      · refine Fo.ite ?_ ?_
        · exact hj7 _ _
        · exact hj7 _ _
theorem fr_X12_glowing (l1 : Int32) (l2 : Int32) (I : HI) (J : HJ) : Fo wi_X12_glowing wj_X12_glowing I J (F_X12_glowing l1 l2 I J) := by
  suffices key : ∀ (I0 : HI) (J0 : HJ), Sm wi_X12_glowing I0 I → Sm wj_X12_glowing J0 J → Fo wi_X12_glowing wj_X12_glowing I0 J0 (F_X12_glowing l1 l2 I J) from key I J Sm.rf Sm.rf
  intro I0 J0 hI hJ
  unfold F_X12_glowing
  refine Fo.call (fr_X12_shine l1 l2 I J) (by decide) (by decide) hI hJ (fun _ I2 J3 hI2 hJ3 => ?_)
  refine fr_X12_glowing_L11 _ _ _ _ hI2 hJ3 bgf _ _
theorem fr_X12_glowingWith (l1 : Int32) (l2 : Int32) (l3 : Int32) (I : HI) (J : HJ) : Fo wi_X12_glowingWith wj_X12_glowingWith I J (F_X12_glowingWith l1 l2 l3 I J) := by
  suffices key : ∀ (I0 : HI) (J0 : HJ), Sm wi_X12_glowingWith I0 I → Sm wj_X12_glowingWith J0 J → Fo wi_X12_glowingWith wj_X12_glowingWith I0 J0 (F_X12_glowingWith l1 l2 l3 I J) from key I J Sm.rf Sm.rf
  intro I0 J0 hI hJ
  unfold F_X12_glowingWith
  refine Fo.call (fr_X12_lay l1 I J) (by decide) (by decide) hI hJ (fun _ I1 J2 hI1 hJ2 => ?_)
  refine Fo.call (fr_X12_glowing l2 l3 I1 J2) (by decide) (by decide) hI1 hJ2 (fun r3 I4 J5 hI4 hJ5 => ?_)
  exact Fo.some hI4 hJ5
theorem fr_X12_put (l1 : Int32) (l2 : Int32) (I : HI) (J : HJ) : Fo wi_X12_put wj_X12_put I J (F_X12_put l1 l2 I J) := by
  suffices key : ∀ (I0 : HI) (J0 : HJ), Sm wi_X12_put I0 I → Sm wj_X12_put J0 J → Fo wi_X12_put wj_X12_put I0 J0 (F_X12_put l1 l2 I J) from key I J Sm.rf Sm.rf
  intro I0 J0 hI hJ
  unfold F_X12_put
  refine Fo.lui rfl hI (fun I4 hI4 => ?_)
  refine Fo.callp (fun r5 => ?_)
  refine Fo.ite ?_ ?_
  · exact Fo.some hI4 hJ
  · refine Fo.lui rfl hI4 (fun I6 hI6 => ?_)
    refine Fo.lui rfl hI6 (fun I7 hI7 => ?_)
    refine Fo.call (fr_X12_glowingWith (0 : Int32) l1 l2 I7 J) (by decide) (by decide) hI7 hJ (fun r8 I9 J10 hI9 hJ10 => ?_)
    refine Fo.callp (fun r11 => ?_)
    exact Fo.some hI9 hJ10
theorem fr_X12_glows  (I : HI) (J : HJ) : Fo wi_X12_glows wj_X12_glows I J (F_X12_glows  I J) := by
  suffices key : ∀ (I0 : HI) (J0 : HJ), Sm wi_X12_glows I0 I → Sm wj_X12_glows J0 J → Fo wi_X12_glows wj_X12_glows I0 J0 (F_X12_glows  I J) from key I J Sm.rf Sm.rf
  intro I0 J0 hI hJ
  unfold F_X12_glows
  refine Fo.lui rfl hI (fun I2 hI2 => ?_)
  refine Fo.call (fr_X12_glowingWith (0 : Int32) (I2 m_self f_Model_shownHigh) (I2 m_self f_Model_shownLow) I2 J) (by decide) (by decide) hI2 hJ (fun r3 I4 J5 hI4 hJ5 => ?_)
  exact Fo.some hI4 hJ5
theorem fr_X12_ghosts  (I : HI) (J : HJ) : Fo wi_X12_ghosts wj_X12_ghosts I J (F_X12_ghosts  I J) := by
  suffices key : ∀ (I0 : HI) (J0 : HJ), Sm wi_X12_ghosts I0 I → Sm wj_X12_ghosts J0 J → Fo wi_X12_ghosts wj_X12_ghosts I0 J0 (F_X12_ghosts  I J) from key I J Sm.rf Sm.rf
  intro I0 J0 hI hJ
  unfold F_X12_ghosts
  refine Fo.lui rfl hI (fun I2 hI2 => ?_)
  refine Fo.call (fr_X12_glowingWith (0 : Int32) (I2 m_self f_Model_shownHigh) (I2 m_self f_Model_shownLow) I2 J) (by decide) (by decide) hI2 hJ (fun r3 I4 J5 hI4 hJ5 => ?_)
  refine Fo.callp (fun r6 => ?_)
  exact Fo.some hI4 hJ5
theorem fr_X12_countAll (l1 : Int32) (I : HI) (J : HJ) : Fo wi_X12_countAll wj_X12_countAll I J (F_X12_countAll l1 I J) := by
  suffices key : ∀ (I0 : HI) (J0 : HJ), Sm wi_X12_countAll I0 I → Sm wj_X12_countAll J0 J → Fo wi_X12_countAll wj_X12_countAll I0 J0 (F_X12_countAll l1 I J) from key I J Sm.rf Sm.rf
  intro I0 J0 hI hJ
  unfold F_X12_countAll
  refine Fo.call (fr_X12_lay (0 : Int32) I J) (by decide) (by decide) hI hJ (fun _ I6 J7 hI6 hJ7 => ?_)
  refine Fo.lui rfl hI6 (fun I8 hI8 => ?_)
  refine Fo.luj rfl hJ7 (fun J9 hJ9 => ?_)
  refine Fo.lui rfl hI8 (fun I10 hI10 => ?_)
  refine Fo.call (fr_X12_shine (I10 m_self f_Model_shownHigh) (I10 m_self f_Model_shownLow) I10 J9) (by decide) (by decide) hI10 hJ9 (fun _ I11 J12 hI11 hJ12 => ?_)
  refine Fo.lui rfl hI11 (fun I13 hI13 => ?_)
  refine Fo.lui rfl hI13 (fun I14 hI14 => ?_)
  exact Fo.some hI14 hJ12
theorem fr_X12_tell (l1 : Int64) (I : HI) (J : HJ) : Fo wi_X12_tell wj_X12_tell I J (F_X12_tell l1 I J) := by
  suffices key : ∀ (I0 : HI) (J0 : HJ), Sm wi_X12_tell I0 I → Sm wj_X12_tell J0 J → Fo wi_X12_tell wj_X12_tell I0 J0 (F_X12_tell l1 I J) from key I J Sm.rf Sm.rf
  intro I0 J0 hI hJ
  unfold F_X12_tell
  refine Fo.gbx ?_
  refine Fo.luj rfl hJ (fun J3 hJ3 => ?_)
  refine Fo.lui rfl hI (fun I4 hI4 => ?_)
  exact Fo.some hI4 hJ3
theorem fr_X12_light (l1 : Int32) (I : HI) (J : HJ) : Fo wi_X12_light wj_X12_light I J (F_X12_light l1 I J) := by
  suffices key : ∀ (I0 : HI) (J0 : HJ), Sm wi_X12_light I0 I → Sm wj_X12_light J0 J → Fo wi_X12_light wj_X12_light I0 J0 (F_X12_light l1 I J) from key I J Sm.rf Sm.rf
  intro I0 J0 hI hJ
  unfold F_X12_light
  refine Fo.lui rfl hI (fun I3 hI3 => ?_)
  refine Fo.callp (fun r4 => ?_)
  refine Fo.ite ?_ ?_
  · exact Fo.some hI3 hJ
  · refine Fo.call (fr_X12_countAll (-1 : Int32) I3 J) (by decide) (by decide) hI3 hJ (fun _ I5 J6 hI5 hJ6 => ?_)
    refine Fo.lui rfl hI5 (fun I7 hI7 => ?_)
    refine Fo.gbx ?_
    refine Fo.call (fr_X12_tell (Int32.toInt64 (I7 m_through (Int32.toNatClampNeg l1))) I7 J6) (by decide) (by decide) hI7 hJ6 (fun _ I8 J9 hI8 hJ9 => ?_)
    refine Fo.gbx ?_
    refine Fo.call (fr_X12_tell (J9 m_mostOne (Int32.toNatClampNeg l1)) I8 J9) (by decide) (by decide) hI8 hJ9 (fun _ I10 J11 hI10 hJ11 => ?_)
    refine Fo.gbx ?_
    exact Fo.some hI10 hJ11
theorem fr_X12_why_L42 (I0 : HI) (J0 : HJ) (kx67 : HI → HJ → Option (Int64 × HI × HJ)) (hkx67 : ∀ (I1 : HI) (J1 : HJ), Sm wi_X12_why I0 I1 → Sm wj_X12_why J0 J1 → Fo wi_X12_why wj_X12_why I0 J0 (kx67 I1 J1)) : ∀ (K : Nat) (l2 : Int32) (I : HI) (J : HJ) (hI : Sm wi_X12_why I0 I) (hJ : Sm wj_X12_why J0 J), Fo wi_X12_why wj_X12_why I0 J0 (F_X12_why_L42 kx67 K l2 I J) := by
  intro K
  induction K with
  | zero => intro l2 I J hI hJ; exact Fo.none
  | succ K ih =>
    intro l2 I J hI hJ
    rw [F_X12_why_L42]
    refine Fo.ite ?_ ?_
    · exact hkx67 _ _ hI hJ
    · refine Fo.gbx ?_
      refine Fo.call (fr_X12_tell (Int32.toInt64 (I m_bestPath (Int32.toNatClampNeg l2))) I J) (by decide) (by decide) hI hJ (fun _ I8 J9 hI8 hJ9 => ?_)
      exact ih _ _ _ hI8 hJ9
theorem fr_X12_why (l1 : Int32) (I : HI) (J : HJ) : Fo wi_X12_why wj_X12_why I J (F_X12_why l1 I J) := by
  suffices key : ∀ (I0 : HI) (J0 : HJ), Sm wi_X12_why I0 I → Sm wj_X12_why J0 J → Fo wi_X12_why wj_X12_why I0 J0 (F_X12_why l1 I J) from key I J Sm.rf Sm.rf
  intro I0 J0 hI hJ
  unfold F_X12_why
  refine Fo.lui rfl hI (fun I3 hI3 => ?_)
  refine Fo.callp (fun r4 => ?_)
  refine Fo.ite ?_ ?_
  · exact Fo.some hI3 hJ
  · refine Fo.call (fr_X12_countAll l1 I3 J) (by decide) (by decide) hI3 hJ (fun _ I5 J6 hI5 hJ6 => ?_)
    refine Fo.ite ?_ ?_
    · exact Fo.some hI5 hJ6
    · refine Fo.lui rfl hI5 (fun I7 hI7 => ?_)
      refine fr_X12_why_L42 _ _ _ (fun I10 J11 hI10 hJ11 => ?_) bgf _ _ _ hI7 hJ6
      exact Fo.some hI10 hJ11
theorem fr_X12_draws (l1 : Int32) (I : HI) (J : HJ) : Fo wi_X12_draws wj_X12_draws I J (F_X12_draws l1 I J) := by
  suffices key : ∀ (I0 : HI) (J0 : HJ), Sm wi_X12_draws I0 I → Sm wj_X12_draws J0 J → Fo wi_X12_draws wj_X12_draws I0 J0 (F_X12_draws l1 I J) from key I J Sm.rf Sm.rf
  intro I0 J0 hI hJ
  unfold F_X12_draws
  refine Fo.lui rfl hI (fun I2 hI2 => ?_)
  refine Fo.callp (fun r3 => ?_)
  refine Fo.ite ?_ ?_
  · exact Fo.some hI2 hJ
  · refine Fo.call (fr_X12_countAll (-1 : Int32) I2 J) (by decide) (by decide) hI2 hJ (fun _ I4 J5 hI4 hJ5 => ?_)
    refine Fo.gbx ?_
    exact Fo.some hI4 hJ5
theorem fr_X12_brightest_L17 (I0 : HI) (J0 : HJ) (I : HI) (J : HJ) (kx87 : Int32 → Int32 → Option (Int32 × HI × HJ)) (hI : Sm wi_X12_brightest I0 I) (hJ : Sm wj_X12_brightest J0 J) (hkx87 : ∀ (y1 : Int32) (y2 : Int32), Fo wi_X12_brightest wj_X12_brightest I0 J0 (kx87 y1 y2)) : ∀ (K : Nat) (l1 : Int32) (l2 : Int32) (l3 : Int32), Fo wi_X12_brightest wj_X12_brightest I0 J0 (F_X12_brightest_L17 I J kx87 K l1 l2 l3) := by
  intro K
  induction K with
  | zero => intro l1 l2 l3; exact Fo.none
  | succ K ih =>
    intro l1 l2 l3
    rw [F_X12_brightest_L17]
    refine Fo.ite ?_ ?_
    · exact hkx87 _ _
    · refine Fo.callp (fun r6 => ?_)
      refine Fo.jn (fun j => ∀ (y7 : Int32) (y8 : Int32), Fo wi_X12_brightest wj_X12_brightest I0 J0 (j y7 y8)) (fun y7 y8 => ?_) (fun j9 hj9 => ?_)
      · exact ih _ _ _
      · refine Fo.ite ?_ ?_
        · exact hj9 _ _
        · refine Fo.jn (fun j => ∀ (y10 : Int32), Fo wi_X12_brightest wj_X12_brightest I0 J0 (j y10)) (fun y10 => ?_) (fun j11 hj11 => ?_)
          · refine Fo.jn (fun j => Fo wi_X12_brightest wj_X12_brightest I0 J0 (j)) ?_ (fun j12 hj12 => ?_)
            · exact hj9 _ _
            · refine Fo.ite ?_ ?_
              · exact hj12
              · refine Fo.gbx ?_
                refine Fo.gbx ?_
                refine Fo.ite ?_ ?_
                · exact hj9 _ _
                · exact hj12
          · refine Fo.jn (fun j => Fo wi_X12_brightest wj_X12_brightest I0 J0 (j)) ?_ (fun j13 hj13 => ?_)
            · exact hj11 _
            · refine Fo.ite ?_ ?_
              · exact hj13
              · refine Fo.gbx ?_
                refine Fo.gbx ?_
                refine Fo.ite ?_ ?_
                · exact hj11 _
                · exact hj13
theorem fr_X12_brightest  (I : HI) (J : HJ) : Fo wi_X12_brightest wj_X12_brightest I J (F_X12_brightest  I J) := by
  suffices key : ∀ (I0 : HI) (J0 : HJ), Sm wi_X12_brightest I0 I → Sm wj_X12_brightest J0 J → Fo wi_X12_brightest wj_X12_brightest I0 J0 (F_X12_brightest  I J) from key I J Sm.rf Sm.rf
  intro I0 J0 hI hJ
  unfold F_X12_brightest
  refine Fo.lui rfl hI (fun I3 hI3 => ?_)
  refine Fo.call (fr_X12_countAll (-1 : Int32) I3 J) (by decide) (by decide) hI3 hJ (fun _ I4 J5 hI4 hJ5 => ?_)
  refine fr_X12_brightest_L17 _ _ _ _ _ hI4 hJ5 (fun y14 y15 => ?_) bgf _ _ _
  refine Fo.ite ?_ ?_
  · refine Fo.lui rfl hI4 (fun I16 hI16 => ?_)
    refine Fo.gbx ?_
    refine Fo.call (fr_X12_tell (J5 m_light (Int32.toNatClampNeg y14)) I16 J5) (by decide) (by decide) hI16 hJ5 (fun _ I17 J18 hI17 hJ18 => ?_)
    refine Fo.call (fr_X12_tell (Int32.toInt64 y15) I17 J18) (by decide) (by decide) hI17 hJ18 (fun _ I19 J20 hI19 hJ20 => ?_)
    refine Fo.gbx ?_
    refine Fo.call (fr_X12_tell (J20 m_light (Int32.toNatClampNeg y15)) I19 J20) (by decide) (by decide) hI19 hJ20 (fun _ I21 J22 hI21 hJ22 => ?_)
    exact Fo.some hI21 hJ22
  · exact Fo.some hI4 hJ5
theorem fr_X12_findGlow_99_L13 (I0 : HI) (J0 : HJ) (l3 : Int32) : ∀ (K : Nat) (l4 : Int32) (I : HI) (J : HJ) (hI : Sm wi_X12_findGlow_99 I0 I) (hJ : Sm wj_X12_findGlow_99 J0 J), Fo wi_X12_findGlow_99 wj_X12_findGlow_99 I0 J0 (F_X12_findGlow_99_L13 l3 K l4 I J) := by
  intro K
  induction K with
  | zero => intro l4 I J hI hJ; exact Fo.none
  | succ K ih =>
    intro l4 I J hI hJ
    rw [F_X12_findGlow_99_L13]
    refine Fo.ite ?_ ?_
    · exact Fo.some hI hJ
    · refine Fo.callp (fun r5 => ?_)
      refine Fo.callp (fun r6 => ?_)
      refine Fo.call (fr_X12_glowing r5 r6 I J) (by decide) (by decide) hI hJ (fun r7 I8 J9 hI8 hJ9 => ?_)
      refine Fo.gbx ?_
      refine Fo.luj rfl hJ9 (fun J10 hJ10 => ?_)
      exact ih _ _ _ hI8 hJ10
theorem fr_X12_findGlow_99 (l1 : Int32) (I : HI) (J : HJ) : Fo wi_X12_findGlow_99 wj_X12_findGlow_99 I J (F_X12_findGlow_99 l1 I J) := by
  suffices key : ∀ (I0 : HI) (J0 : HJ), Sm wi_X12_findGlow_99 I0 I → Sm wj_X12_findGlow_99 J0 J → Fo wi_X12_findGlow_99 wj_X12_findGlow_99 I0 J0 (F_X12_findGlow_99 l1 I J) from key I J Sm.rf Sm.rf
  intro I0 J0 hI hJ
  unfold F_X12_findGlow_99
  refine Fo.call (fr_X12_lay l1 I J) (by decide) (by decide) hI hJ (fun _ I2 J3 hI2 hJ3 => ?_)
  refine Fo.callp (fun r4 => ?_)
  refine fr_X12_findGlow_99_L13 _ _ _ bgf _ _ _ hI2 hJ3
theorem fr_X12_findAll_L16 (I0 : HI) (J0 : HJ) (l1 : Int32) (J : HJ) (hJ : Sm wj_X12_findAll J0 J) : ∀ (K : Nat) (l2 : Int32) (I : HI) (hI : Sm wi_X12_findAll I0 I), Fo wi_X12_findAll wj_X12_findAll I0 J0 (F_X12_findAll_L16 l1 J K l2 I) := by
  intro K
  induction K with
  | zero => intro l2 I hI; exact Fo.none
  | succ K ih =>
    intro l2 I hI
    rw [F_X12_findAll_L16]
    refine Fo.ite ?_ ?_
    · exact Fo.some hI hJ
    · refine Fo.gbx ?_
      refine Fo.callp (fun r5 => ?_)
      refine Fo.callp (fun r6 => ?_)
      refine Fo.callp (fun r7 => ?_)
      refine Fo.jn (fun j => ∀ (y8 : Int32) (y9 : Int32), Fo wi_X12_findAll wj_X12_findAll I0 J0 (j y8 y9)) (fun y8 y9 => ?_) (fun j10 hj10 => ?_)
      · refine Fo.gbx ?_
        refine Fo.lui rfl hI (fun I11 hI11 => ?_)
        exact ih _ _ hI11
      · refine Fo.ite ?_ ?_
        · exact hj10 _ _
        · exact hj10 _ _
theorem fr_X12_findAll  (I : HI) (J : HJ) : Fo wi_X12_findAll wj_X12_findAll I J (F_X12_findAll  I J) := by
  suffices key : ∀ (I0 : HI) (J0 : HJ), Sm wi_X12_findAll I0 I → Sm wj_X12_findAll J0 J → Fo wi_X12_findAll wj_X12_findAll I0 J0 (F_X12_findAll  I J) from key I J Sm.rf Sm.rf
  intro I0 J0 hI hJ
  unfold F_X12_findAll
  refine Fo.call (fr_X12_findGlow_99 (0 : Int32) I J) (by decide) (by decide) hI hJ (fun _ I2 J3 hI2 hJ3 => ?_)
  refine Fo.callp (fun r4 => ?_)
  refine fr_X12_findAll_L16 _ _ _ _ hJ3 bgf _ _ hI2
theorem fr_X12_shows_L43 (I0 : HI) (J0 : HJ) (l1 : Int64) (I : HI) (J : HJ) (kx75 : Int32 → Int32 → Option (Int32 × HI × HJ)) (hI : Sm wi_X12_shows I0 I) (hJ : Sm wj_X12_shows J0 J) (hkx75 : ∀ (y3 : Int32) (y4 : Int32), Fo wi_X12_shows wj_X12_shows I0 J0 (kx75 y3 y4)) : ∀ (K : Nat) (l3 : Int32) (l4 : Int32) (l5 : Int32), Fo wi_X12_shows wj_X12_shows I0 J0 (F_X12_shows_L43 l1 I J kx75 K l3 l4 l5) := by
  intro K
  induction K with
  | zero => intro l3 l4 l5; exact Fo.none
  | succ K ih =>
    intro l3 l4 l5
    rw [F_X12_shows_L43]
    refine Fo.ite ?_ ?_
    · exact hkx75 _ _
    · refine Fo.gbx ?_
      refine Fo.jn (fun j => ∀ (y11 : Int32) (y12 : Int32), Fo wi_X12_shows wj_X12_shows I0 J0 (j y11 y12)) (fun y11 y12 => ?_) (fun j13 hj13 => ?_)
      · exact ih _ _ _
      · refine Fo.ite ?_ ?_
        · exact hj13 _ _
        · exact hj13 _ _
theorem fr_X12_shows (l1 : Int64) (I : HI) (J : HJ) : Fo wi_X12_shows wj_X12_shows I J (F_X12_shows l1 I J) := by
  suffices key : ∀ (I0 : HI) (J0 : HJ), Sm wi_X12_shows I0 I → Sm wj_X12_shows J0 J → Fo wi_X12_shows wj_X12_shows I0 J0 (F_X12_shows l1 I J) from key I J Sm.rf Sm.rf
  intro I0 J0 hI hJ
  unfold F_X12_shows
  refine Fo.lui rfl hI (fun I4 hI4 => ?_)
  refine Fo.callp (fun r5 => ?_)
  refine Fo.ite ?_ ?_
  · exact Fo.some hI4 hJ
  · refine Fo.callp (fun r6 => ?_)
    refine Fo.ite ?_ ?_
    · exact Fo.some hI4 hJ
    · refine Fo.call (fr_X12_findAll I4 J) (by decide) (by decide) hI4 hJ (fun _ I7 J8 hI7 hJ8 => ?_)
      refine Fo.callp (fun r9 => ?_)
      refine Fo.lbv (fun x10 => ?_)
      refine fr_X12_shows_L43 _ _ _ _ _ _ hI7 hJ8 (fun y14 y15 => ?_) bgf _ _ _
      refine Fo.ite ?_ ?_
      · refine Fo.lui rfl hI7 (fun I16 hI16 => ?_)
        refine Fo.callp (fun r17 => ?_)
        refine Fo.call (fr_X12_tell (Int32.toInt64 r17) I16 J8) (by decide) (by decide) hI16 hJ8 (fun _ I18 J19 hI18 hJ19 => ?_)
        refine Fo.callp (fun r20 => ?_)
        refine Fo.call (fr_X12_tell (Int32.toInt64 r20) I18 J19) (by decide) (by decide) hI18 hJ19 (fun _ I21 J22 hI21 hJ22 => ?_)
        refine Fo.call (fr_X12_tell (Int32.toInt64 y15) I21 J22) (by decide) (by decide) hI21 hJ22 (fun _ I23 J24 hI23 hJ24 => ?_)
        exact Fo.some hI23 hJ24
      · exact Fo.some hI7 hJ8
theorem fr_X12_bars_L37 (I0 : HI) (J0 : HJ) (l1 : Int64) (I : HI) (J : HJ) (kx106 : Int32 → Int32 → Option (Int32 × HI × HJ)) (hI : Sm wi_X12_bars I0 I) (hJ : Sm wj_X12_bars J0 J) (hkx106 : ∀ (y3 : Int32) (y4 : Int32), Fo wi_X12_bars wj_X12_bars I0 J0 (kx106 y3 y4)) : ∀ (K : Nat) (l3 : Int32) (l4 : Int32) (l5 : Int32), Fo wi_X12_bars wj_X12_bars I0 J0 (F_X12_bars_L37 l1 I J kx106 K l3 l4 l5) := by
  intro K
  induction K with
  | zero => intro l3 l4 l5; exact Fo.none
  | succ K ih =>
    intro l3 l4 l5
    rw [F_X12_bars_L37]
    refine Fo.callp (fun r8 => ?_)
    refine Fo.ite ?_ ?_
    · exact hkx106 _ _
    · refine Fo.gbx ?_
      refine Fo.callp (fun r9 => ?_)
      refine Fo.gbx ?_
      refine Fo.jn (fun j => ∀ (y10 : Int32) (y11 : Int32), Fo wi_X12_bars wj_X12_bars I0 J0 (j y10 y11)) (fun y10 y11 => ?_) (fun j12 hj12 => ?_)
      · exact ih _ _ _
      · refine Fo.ite ?_ ?_
        · refine Fo.jn (fun j => Fo wi_X12_bars wj_X12_bars I0 J0 (j)) ?_ (fun j13 hj13 => ?_)
          · exact hj12 _ _
          · refine Fo.ite ?_ ?_
            · exact hj13
            · refine Fo.ite ?_ ?_
              · exact hj13
              · exact hj12 _ _
        · exact hj12 _ _
theorem fr_X12_bars (l1 : Int64) (I : HI) (J : HJ) : Fo wi_X12_bars wj_X12_bars I J (F_X12_bars l1 I J) := by
  suffices key : ∀ (I0 : HI) (J0 : HJ), Sm wi_X12_bars I0 I → Sm wj_X12_bars J0 J → Fo wi_X12_bars wj_X12_bars I0 J0 (F_X12_bars l1 I J) from key I J Sm.rf Sm.rf
  intro I0 J0 hI hJ
  unfold F_X12_bars
  refine Fo.lui rfl hI (fun I3 hI3 => ?_)
  refine Fo.callp (fun r4 => ?_)
  refine Fo.ite ?_ ?_
  · exact Fo.some hI3 hJ
  · refine Fo.callp (fun r5 => ?_)
    refine Fo.ite ?_ ?_
    · exact Fo.some hI3 hJ
    · refine Fo.call (fr_X12_findAll I3 J) (by decide) (by decide) hI3 hJ (fun _ I6 J7 hI6 hJ7 => ?_)
      refine fr_X12_bars_L37 _ _ _ _ _ _ hI6 hJ7 (fun y14 y15 => ?_) bgf _ _ _
      refine Fo.ite ?_ ?_
      · exact Fo.some hI6 hJ7
      · refine Fo.lui rfl hI6 (fun I16 hI16 => ?_)
        refine Fo.call (fr_X12_tell (Int32.toInt64 y14) I16 J7) (by decide) (by decide) hI16 hJ7 (fun _ I17 J18 hI17 hJ18 => ?_)
        refine Fo.jn (fun j => ∀ (y19 : Int64), Fo wi_X12_bars wj_X12_bars I0 J0 (j y19)) (fun y19 => ?_) (fun j20 hj20 => ?_)
        · refine Fo.call (fr_X12_tell y19 I17 J18) (by decide) (by decide) hI17 hJ18 (fun _ I21 J22 hI21 hJ22 => ?_)
          exact Fo.some hI21 hJ22
        · refine Fo.ite ?_ ?_
          · exact hj20 _
          · refine Fo.gbx ?_
            refine Fo.callp (fun r23 => ?_)
            exact hj20 _
theorem fr_X12_most_L25 (I0 : HI) (J0 : HJ) (I : HI) (J : HJ) (kx81 : Int32 → Int32 → Option (Int32 × HI × HJ)) (hI : Sm wi_X12_most I0 I) (hJ : Sm wj_X12_most J0 J) (hkx81 : ∀ (y1 : Int32) (y2 : Int32), Fo wi_X12_most wj_X12_most I0 J0 (kx81 y1 y2)) : ∀ (K : Nat) (l1 : Int32) (l2 : Int32) (l3 : Int32), Fo wi_X12_most wj_X12_most I0 J0 (F_X12_most_L25 I J kx81 K l1 l2 l3) := by
  intro K
  induction K with
  | zero => intro l1 l2 l3; exact Fo.none
  | succ K ih =>
    intro l1 l2 l3
    rw [F_X12_most_L25]
    refine Fo.callp (fun r7 => ?_)
    refine Fo.ite ?_ ?_
    · exact hkx81 _ _
    · refine Fo.gbx ?_
      refine Fo.jn (fun j => ∀ (y8 : Int32) (y9 : Int32), Fo wi_X12_most wj_X12_most I0 J0 (j y8 y9)) (fun y8 y9 => ?_) (fun j10 hj10 => ?_)
      · exact ih _ _ _
      · refine Fo.ite ?_ ?_
        · refine Fo.jn (fun j => Fo wi_X12_most wj_X12_most I0 J0 (j)) ?_ (fun j11 hj11 => ?_)
          · refine Fo.gbx ?_
            refine Fo.callp (fun r12 => ?_)
            exact hj10 _ _
          · refine Fo.ite ?_ ?_
            · exact hj11
            · refine Fo.gbx ?_
              refine Fo.callp (fun r13 => ?_)
              refine Fo.ite ?_ ?_
              · exact hj11
              · exact hj10 _ _
        · exact hj10 _ _
theorem fr_X12_most  (I : HI) (J : HJ) : Fo wi_X12_most wj_X12_most I J (F_X12_most  I J) := by
  suffices key : ∀ (I0 : HI) (J0 : HJ), Sm wi_X12_most I0 I → Sm wj_X12_most J0 J → Fo wi_X12_most wj_X12_most I0 J0 (F_X12_most  I J) from key I J Sm.rf Sm.rf
  intro I0 J0 hI hJ
  unfold F_X12_most
  refine Fo.lui rfl hI (fun I3 hI3 => ?_)
  refine Fo.callp (fun r4 => ?_)
  refine Fo.ite ?_ ?_
  · exact Fo.some hI3 hJ
  · refine Fo.call (fr_X12_findAll I3 J) (by decide) (by decide) hI3 hJ (fun _ I5 J6 hI5 hJ6 => ?_)
    refine fr_X12_most_L25 _ _ _ _ _ hI5 hJ6 (fun y14 y15 => ?_) bgf _ _ _
    refine Fo.lui rfl hI5 (fun I16 hI16 => ?_)
    refine Fo.call (fr_X12_tell (Int32.toInt64 y14) I16 J6) (by decide) (by decide) hI16 hJ6 (fun _ I17 J18 hI17 hJ18 => ?_)
    exact Fo.some hI17 hJ18
theorem fr_X12_sets_L55 (I0 : HI) (J0 : HJ) (l1 : Int32) (l2 : Int32) (l3 : Int32) (l5 : Int32) (I : HI) (J : HJ) (kx96 : Int32 → Option (Int32 × HI × HJ)) (hI : Sm wi_X12_sets I0 I) (hJ : Sm wj_X12_sets J0 J) (hkx96 : ∀ (y4 : Int32), Fo wi_X12_sets wj_X12_sets I0 J0 (kx96 y4)) : ∀ (K : Nat) (l4 : Int32) (l6 : Int32), Fo wi_X12_sets wj_X12_sets I0 J0 (F_X12_sets_L55 l1 l2 l3 l5 I J kx96 K l4 l6) := by
  intro K
  induction K with
  | zero => intro l4 l6; exact Fo.none
  | succ K ih =>
    intro l4 l6
    rw [F_X12_sets_L55]
    refine Fo.ite ?_ ?_
    · exact hkx96 _
    · refine Fo.ite ?_ ?_
      · exact hkx96 _
      · refine Fo.gbx ?_
        refine Fo.gbx ?_
        refine Fo.jn (fun j => ∀ (y12 : Int32), Fo wi_X12_sets wj_X12_sets I0 J0 (j y12)) (fun y12 => ?_) (fun j13 hj13 => ?_)
        · exact ih _ _
        · refine Fo.ite ?_ ?_
          · exact hj13 _
          · exact hj13 _
theorem fr_X12_sets_L109 (I0 : HI) (J0 : HJ) (l1 : Int32) (l2 : Int32) (l3 : Int32) (I : HI) (J : HJ) (kx163 : Int32 → Option (Int32 × HI × HJ)) (hI : Sm wi_X12_sets I0 I) (hJ : Sm wj_X12_sets J0 J) (hkx163 : ∀ (y5 : Int32), Fo wi_X12_sets wj_X12_sets I0 J0 (kx163 y5)) : ∀ (K : Nat) (l5 : Int32) (l6 : Int32), Fo wi_X12_sets wj_X12_sets I0 J0 (F_X12_sets_L109 l1 l2 l3 I J kx163 K l5 l6) := by
  intro K
  induction K with
  | zero => intro l5 l6; exact Fo.none
  | succ K ih =>
    intro l5 l6
    rw [F_X12_sets_L109]
    refine Fo.callp (fun r19 => ?_)
    refine Fo.ite ?_ ?_
    · exact hkx163 _
    · refine Fo.ite ?_ ?_
      · refine Fo.gbx ?_
        refine Fo.gbx ?_
        refine Fo.jn (fun j => ∀ (y20 : Int32), Fo wi_X12_sets wj_X12_sets I0 J0 (j y20)) (fun y20 => ?_) (fun j21 hj21 => ?_)
        · exact ih _ _
        · refine Fo.jn (fun j => Fo wi_X12_sets wj_X12_sets I0 J0 (j)) ?_ (fun j22 hj22 => ?_)
          · exact hj21 _
          · refine Fo.ite ?_ ?_
            · refine Fo.gbx ?_
              refine Fo.ite ?_ ?_
              · exact hj21 _
              · exact hj22
            · exact hj22
      · exact hkx163 _
theorem fr_X12_sets_L25 (I0 : HI) (J0 : HJ) (I : HI) (J : HJ) (kx185 : Int32 → Int32 → Option (Int32 × HI × HJ)) (hI : Sm wi_X12_sets I0 I) (hJ : Sm wj_X12_sets J0 J) (hkx185 : ∀ (y1 : Int32) (y2 : Int32), Fo wi_X12_sets wj_X12_sets I0 J0 (kx185 y1 y2)) : ∀ (K : Nat) (l1 : Int32) (l2 : Int32) (l3 : Int32), Fo wi_X12_sets wj_X12_sets I0 J0 (F_X12_sets_L25 I J kx185 K l1 l2 l3) := by
  intro K
  induction K with
  | zero => intro l1 l2 l3; exact Fo.none
  | succ K ih =>
    intro l1 l2 l3
    rw [F_X12_sets_L25]
    refine Fo.callp (fun r9 => ?_)
    refine Fo.ite ?_ ?_
    · exact hkx185 _ _
    · refine Fo.gbx ?_
      refine Fo.jn (fun j => ∀ (y10 : Int32), Fo wi_X12_sets wj_X12_sets I0 J0 (j y10)) (fun y10 => ?_) (fun j11 hj11 => ?_)
      · refine fr_X12_sets_L55 _ _ _ _ _ _ _ _ _ hI hJ (fun y14 => ?_) bgf _ _
        refine Fo.jn (fun j => ∀ (y15 : Int32) (y16 : Int32), Fo wi_X12_sets wj_X12_sets I0 J0 (j y15 y16)) (fun y15 y16 => ?_) (fun j17 hj17 => ?_)
        · exact ih _ _ _
        · refine Fo.ite ?_ ?_
          · exact hj17 _ _
          · refine Fo.lbv (fun x18 => ?_)
            refine fr_X12_sets_L109 _ _ _ _ _ _ _ _ hI hJ (fun y23 => ?_) bgf _ _
            refine Fo.jn (fun j => ∀ (y24 : Int32) (y25 : Int32), Fo wi_X12_sets wj_X12_sets I0 J0 (j y24 y25)) (fun y24 y25 => ?_) (fun j26 hj26 => ?_)
            · refine Fo.lbv (fun x27 => ?_)
              exact hj17 _ _
            · refine Fo.ite ?_ ?_
              · exact hj26 _ _
              · exact hj26 _ _
      · refine Fo.ite ?_ ?_
        · exact hj11 _
        · exact hj11 _
theorem fr_X12_sets  (I : HI) (J : HJ) : Fo wi_X12_sets wj_X12_sets I J (F_X12_sets  I J) := by
  suffices key : ∀ (I0 : HI) (J0 : HJ), Sm wi_X12_sets I0 I → Sm wj_X12_sets J0 J → Fo wi_X12_sets wj_X12_sets I0 J0 (F_X12_sets  I J) from key I J Sm.rf Sm.rf
  intro I0 J0 hI hJ
  unfold F_X12_sets
  refine Fo.lui rfl hI (fun I5 hI5 => ?_)
  refine Fo.callp (fun r6 => ?_)
  refine Fo.ite ?_ ?_
  · exact Fo.some hI5 hJ
  · refine Fo.call (fr_X12_findAll I5 J) (by decide) (by decide) hI5 hJ (fun _ I7 J8 hI7 hJ8 => ?_)
    refine fr_X12_sets_L25 _ _ _ _ _ hI7 hJ8 (fun y28 y29 => ?_) bgf _ _ _
    refine Fo.lui rfl hI7 (fun I30 hI30 => ?_)
    refine Fo.call (fr_X12_tell (Int32.toInt64 y29) I30 J8) (by decide) (by decide) hI30 hJ8 (fun _ I31 J32 hI31 hJ32 => ?_)
    exact Fo.some hI31 hJ32
theorem fr_X12_fits_L44 (I0 : HI) (J0 : HJ) (l1 : Int32) (l2 : Int32) (I : HI) (J : HJ) (hI : Sm wi_X12_fits I0 I) (hJ : Sm wj_X12_fits J0 J) : ∀ (K : Nat) (l3 : Int32), Fo wi_X12_fits wj_X12_fits I0 J0 (F_X12_fits_L44 l1 l2 I J K l3) := by
  intro K
  induction K with
  | zero => intro l3; exact Fo.none
  | succ K ih =>
    intro l3
    rw [F_X12_fits_L44]
    refine Fo.callp (fun r8 => ?_)
    refine Fo.ite ?_ ?_
    · exact Fo.some hI hJ
    · refine Fo.gbx ?_
      refine Fo.jn (fun j => Fo wi_X12_fits wj_X12_fits I0 J0 (j)) ?_ (fun j9 hj9 => ?_)
      · exact ih _
      · refine Fo.ite ?_ ?_
        · refine Fo.gbx ?_
          refine Fo.callp (fun r10 => ?_)
          refine Fo.ite ?_ ?_
          · exact hj9
          · refine Fo.gbx ?_
            refine Fo.callp (fun r11 => ?_)
            refine Fo.ite ?_ ?_
            · exact hj9
            · exact Fo.some hI hJ
        · exact hj9
theorem fr_X12_fits (l1 : Int32) (l2 : Int32) (I : HI) (J : HJ) : Fo wi_X12_fits wj_X12_fits I J (F_X12_fits l1 l2 I J) := by
  suffices key : ∀ (I0 : HI) (J0 : HJ), Sm wi_X12_fits I0 I → Sm wj_X12_fits J0 J → Fo wi_X12_fits wj_X12_fits I0 J0 (F_X12_fits l1 l2 I J) from key I J Sm.rf Sm.rf
  intro I0 J0 hI hJ
  unfold F_X12_fits
  refine Fo.lui rfl hI (fun I2 hI2 => ?_)
  refine Fo.callp (fun r3 => ?_)
  refine Fo.ite ?_ ?_
  · exact Fo.some hI2 hJ
  · refine Fo.callp (fun r4 => ?_)
    refine Fo.ite ?_ ?_
    · exact Fo.some hI2 hJ
    · refine Fo.ite ?_ ?_
      · exact Fo.some hI2 hJ
      · refine Fo.callp (fun r5 => ?_)
        refine Fo.ite ?_ ?_
        · exact Fo.some hI2 hJ
        · refine Fo.call (fr_X12_findAll I2 J) (by decide) (by decide) hI2 hJ (fun _ I6 J7 hI6 hJ7 => ?_)
          refine fr_X12_fits_L44 _ _ _ _ _ _ hI6 hJ7 bgf _
theorem fr_X12_alone_L24 (I0 : HI) (J0 : HJ) (I : HI) (J : HJ) (hI : Sm wi_X12_alone I0 I) (hJ : Sm wj_X12_alone J0 J) : ∀ (K : Nat) (l1 : Int64) (l3 : Int32), Fo wi_X12_alone wj_X12_alone I0 J0 (F_X12_alone_L24 I J K l1 l3) := by
  intro K
  induction K with
  | zero => intro l1 l3; exact Fo.none
  | succ K ih =>
    intro l1 l3
    rw [F_X12_alone_L24]
    refine Fo.callp (fun r7 => ?_)
    refine Fo.ite ?_ ?_
    · exact Fo.some hI hJ
    · refine Fo.gbx ?_
      refine Fo.callp (fun r8 => ?_)
      refine Fo.jn (fun j => ∀ (y9 : Int64) (y10 : Int64), Fo wi_X12_alone wj_X12_alone I0 J0 (j y9 y10)) (fun y9 y10 => ?_) (fun j11 hj11 => ?_)
      · refine Fo.lbv (fun x12 => ?_)
        exact ih _ _
      · refine Fo.ite ?_ ?_
        · refine Fo.gbx ?_
          exact hj11 _ _
        · exact hj11 _ _
theorem fr_X12_alone  (I : HI) (J : HJ) : Fo wi_X12_alone wj_X12_alone I J (F_X12_alone  I J) := by
  suffices key : ∀ (I0 : HI) (J0 : HJ), Sm wi_X12_alone I0 I → Sm wj_X12_alone J0 J → Fo wi_X12_alone wj_X12_alone I0 J0 (F_X12_alone  I J) from key I J Sm.rf Sm.rf
  intro I0 J0 hI hJ
  unfold F_X12_alone
  refine Fo.lui rfl hI (fun I3 hI3 => ?_)
  refine Fo.callp (fun r4 => ?_)
  refine Fo.ite ?_ ?_
  · exact Fo.some hI3 hJ
  · refine Fo.call (fr_X12_findAll I3 J) (by decide) (by decide) hI3 hJ (fun _ I5 J6 hI5 hJ6 => ?_)
    refine fr_X12_alone_L24 _ _ _ _ hI5 hJ6 bgf _ _
theorem fr_X12_twins_L57 (I0 : HI) (J0 : HJ) (l1 : Int32) (l2 : Int32) (l3 : Int32) (I : HI) (J : HJ) (kx135 : Int32 → Int32 → Option (Int32 × HI × HJ)) (hI : Sm wi_X12_twins I0 I) (hJ : Sm wj_X12_twins J0 J) (hkx135 : ∀ (y4 : Int32) (y5 : Int32), Fo wi_X12_twins wj_X12_twins I0 J0 (kx135 y4 y5)) : ∀ (K : Nat) (l4 : Int32) (l5 : Int32) (l6 : Int32), Fo wi_X12_twins wj_X12_twins I0 J0 (F_X12_twins_L57 l1 l2 l3 I J kx135 K l4 l5 l6) := by
  intro K
  induction K with
  | zero => intro l4 l5 l6; exact Fo.none
  | succ K ih =>
    intro l4 l5 l6
    rw [F_X12_twins_L57]
    refine Fo.callp (fun r10 => ?_)
    refine Fo.ite ?_ ?_
    · exact hkx135 _ _
    · refine Fo.ite ?_ ?_
      · exact hkx135 _ _
      · refine Fo.gbx ?_
        refine Fo.callp (fun r11 => ?_)
        refine Fo.gbx ?_
        refine Fo.callp (fun r12 => ?_)
        refine Fo.jn (fun j => ∀ (y13 : Int32), Fo wi_X12_twins wj_X12_twins I0 J0 (j y13)) (fun y13 => ?_) (fun j14 hj14 => ?_)
        · refine Fo.jn (fun j => ∀ (y15 : Int32), Fo wi_X12_twins wj_X12_twins I0 J0 (j y15)) (fun y15 => ?_) (fun j16 hj16 => ?_)
          · exact ih _ _ _
          · refine Fo.jn (fun j => Fo wi_X12_twins wj_X12_twins I0 J0 (j)) ?_ (fun j17 hj17 => ?_)
            · exact hj16 _
            · refine Fo.ite ?_ ?_
              · refine Fo.gbx ?_
                refine Fo.callp (fun r18 => ?_)
                refine Fo.ite ?_ ?_
                · exact hj16 _
                · exact hj17
              · exact hj17
        · refine Fo.ite ?_ ?_
          · exact hj14 _
          · exact hj14 _
theorem fr_X12_twins_L40 (I0 : HI) (J0 : HJ) (l2 : Int32) (kx173 : Int32 → HI → HJ → Option (Int32 × HI × HJ)) (hkx173 : ∀ (y1 : Int32) (I1 : HI) (J1 : HJ), Sm wi_X12_twins I0 I1 → Sm wj_X12_twins J0 J1 → Fo wi_X12_twins wj_X12_twins I0 J0 (kx173 y1 I1 J1)) : ∀ (K : Nat) (l1 : Int32) (l3 : Int32) (I : HI) (J : HJ) (hI : Sm wi_X12_twins I0 I) (hJ : Sm wj_X12_twins J0 J), Fo wi_X12_twins wj_X12_twins I0 J0 (F_X12_twins_L40 l2 kx173 K l1 l3 I J) := by
  intro K
  induction K with
  | zero => intro l1 l3 I J hI hJ; exact Fo.none
  | succ K ih =>
    intro l1 l3 I J hI hJ
    rw [F_X12_twins_L40]
    refine Fo.ite ?_ ?_
    · exact hkx173 _ _ _ hI hJ
    · refine fr_X12_twins_L57 _ _ _ _ _ _ _ _ hI hJ (fun y19 y20 => ?_) bgf _ _ _
      refine Fo.jn (fun j => ∀ (y21 : Int32) (I22 : HI) (J23 : HJ), Sm wi_X12_twins I0 I22 → Sm wj_X12_twins J0 J23 → Fo wi_X12_twins wj_X12_twins I0 J0 (j y21 I22 J23)) (fun y21 I22 J23 hI22 hJ23 => ?_) (fun j24 hj24 => ?_)
      · exact ih _ _ _ _ hI22 hJ23
      · refine Fo.ite ?_ ?_
        · exact hj24 _ _ _ hI hJ
        · refine Fo.ite ?_ ?_
          · exact hj24 _ _ _ hI hJ
          · refine Fo.jn (fun j => ∀ (I25 : HI) (J26 : HJ), Sm wi_X12_twins I0 I25 → Sm wj_X12_twins J0 J26 → Fo wi_X12_twins wj_X12_twins I0 J0 (j I25 J26)) (fun I25 J26 hI25 hJ26 => ?_) (fun j27 hj27 => ?_)
            · exact hj24 _ _ _ hI25 hJ26
            · refine Fo.ite ?_ ?_
              · refine Fo.call (fr_X12_tell (Int32.toInt64 l2) I J) (by decide) (by decide) hI hJ (fun _ I28 J29 hI28 hJ29 => ?_)
                refine Fo.call (fr_X12_tell (Int32.toInt64 l3) I28 J29) (by decide) (by decide) hI28 hJ29 (fun _ I30 J31 hI30 hJ31 => ?_)
                exact hj27 _ _ hI30 hJ31
              · exact hj27 _ _ hI hJ
theorem fr_X12_twins_L28 (I0 : HI) (J0 : HJ)  : ∀ (K : Nat) (l1 : Int32) (l2 : Int32) (I : HI) (J : HJ) (hI : Sm wi_X12_twins I0 I) (hJ : Sm wj_X12_twins J0 J), Fo wi_X12_twins wj_X12_twins I0 J0 (F_X12_twins_L28 K l1 l2 I J) := by
  intro K
  induction K with
  | zero => intro l1 l2 I J hI hJ; exact Fo.none
  | succ K ih =>
    intro l1 l2 I J hI hJ
    rw [F_X12_twins_L28]
    refine Fo.ite ?_ ?_
    · exact Fo.some hI hJ
    · refine Fo.lbv (fun x9 => ?_)
      refine fr_X12_twins_L40 _ _ _ _ (fun y32 I33 J34 hI33 hJ34 => ?_) bgf _ _ _ _ hI hJ
      exact ih _ _ _ _ hI33 hJ34
theorem fr_X12_twins  (I : HI) (J : HJ) : Fo wi_X12_twins wj_X12_twins I J (F_X12_twins  I J) := by
  suffices key : ∀ (I0 : HI) (J0 : HJ), Sm wi_X12_twins I0 I → Sm wj_X12_twins J0 J → Fo wi_X12_twins wj_X12_twins I0 J0 (F_X12_twins  I J) from key I J Sm.rf Sm.rf
  intro I0 J0 hI hJ
  unfold F_X12_twins
  refine Fo.lui rfl hI (fun I4 hI4 => ?_)
  refine Fo.callp (fun r5 => ?_)
  refine Fo.ite ?_ ?_
  · exact Fo.some hI4 hJ
  · refine Fo.call (fr_X12_findAll I4 J) (by decide) (by decide) hI4 hJ (fun _ I6 J7 hI6 hJ7 => ?_)
    refine Fo.lui rfl hI6 (fun I8 hI8 => ?_)
    refine fr_X12_twins_L28 _ _ bgf _ _ _ _ hI8 hJ7
theorem fr_X12_range_L38 (I0 : HI) (J0 : HJ) (l1 : Int32) (l2 : Int32) (l3 : Int64) (l5 : Int32) (kx83 : Int32 → HI → HJ → Option (Int32 × HI × HJ)) (hkx83 : ∀ (y6 : Int32) (I1 : HI) (J1 : HJ), Sm wi_X12_range I0 I1 → Sm wj_X12_range J0 J1 → Fo wi_X12_range wj_X12_range I0 J0 (kx83 y6 I1 J1)) : ∀ (K : Nat) (l6 : Int32) (l7 : Int32) (I : HI) (J : HJ) (hI : Sm wi_X12_range I0 I) (hJ : Sm wj_X12_range J0 J), Fo wi_X12_range wj_X12_range I0 J0 (F_X12_range_L38 l1 l2 l3 l5 kx83 K l6 l7 I J) := by
  intro K
  induction K with
  | zero => intro l6 l7 I J hI hJ; exact Fo.none
  | succ K ih =>
    intro l6 l7 I J hI hJ
    rw [F_X12_range_L38]
    refine Fo.ite ?_ ?_
    · exact hkx83 _ _ _ hI hJ
    · refine Fo.gbx ?_
      refine Fo.lui rfl hI (fun I12 hI12 => ?_)
      refine Fo.call (fr_X12_glowing l1 l2 I12 J) (by decide) (by decide) hI12 hJ (fun r13 I14 J15 hI14 hJ15 => ?_)
      refine Fo.jn (fun j => ∀ (y16 : Int32) (y17 : Int32), Fo wi_X12_range wj_X12_range I0 J0 (j y16 y17)) (fun y16 y17 => ?_) (fun j18 hj18 => ?_)
      · refine Fo.lbv (fun x19 => ?_)
        exact ih _ _ _ _ hI14 hJ15
      · refine Fo.ite ?_ ?_
        · exact hj18 _ _
        · exact hj18 _ _
theorem fr_X12_range (l1 : Int32) (l2 : Int32) (I : HI) (J : HJ) : Fo wi_X12_range wj_X12_range I J (F_X12_range l1 l2 I J) := by
  suffices key : ∀ (I0 : HI) (J0 : HJ), Sm wi_X12_range I0 I → Sm wj_X12_range J0 J → Fo wi_X12_range wj_X12_range I0 J0 (F_X12_range l1 l2 I J) from key I J Sm.rf Sm.rf
  intro I0 J0 hI hJ
  unfold F_X12_range
  refine Fo.lui rfl hI (fun I6 hI6 => ?_)
  refine Fo.callp (fun r7 => ?_)
  refine Fo.ite ?_ ?_
  · exact Fo.some hI6 hJ
  · refine Fo.call (fr_X12_glowingWith (0 : Int32) l1 l2 I6 J) (by decide) (by decide) hI6 hJ (fun r8 I9 J10 hI9 hJ10 => ?_)
    refine Fo.gbx ?_
    refine Fo.lbv (fun x11 => ?_)
    refine fr_X12_range_L38 _ _ _ _ _ _ _ (fun y20 I21 J22 hI21 hJ22 => ?_) bgf _ _ _ _ hI9 hJ10
    refine Fo.gbx ?_
    refine Fo.lui rfl hI21 (fun I23 hI23 => ?_)
    exact Fo.some hI23 hJ22
theorem fr_X12_picture (l1 : Int32) (l2 : Int64) (I : HI) (J : HJ) : Fo wi_X12_picture wj_X12_picture I J (F_X12_picture l1 l2 I J) := by
  suffices key : ∀ (I0 : HI) (J0 : HJ), Sm wi_X12_picture I0 I → Sm wj_X12_picture J0 J → Fo wi_X12_picture wj_X12_picture I0 J0 (F_X12_picture l1 l2 I J) from key I J Sm.rf Sm.rf
  intro I0 J0 hI hJ
  unfold F_X12_picture
  refine Fo.lui rfl hI (fun I3 hI3 => ?_)
  refine Fo.callp (fun r4 => ?_)
  refine Fo.ite ?_ ?_
  · exact Fo.some hI3 hJ
  · refine Fo.callp (fun r5 => ?_)
    refine Fo.ite ?_ ?_
    · exact Fo.some hI3 hJ
    · refine Fo.gbx ?_
      refine Fo.luj rfl hJ (fun J6 hJ6 => ?_)
      refine Fo.callp (fun r7 => ?_)
      exact Fo.some hI3 hJ6
theorem fr_X12_findTurns_L11 (I0 : HI) (J0 : HJ) (l1 : Int64) (J : HJ) (kx56 : HI → Option (Unit × HI × HJ)) (hJ : Sm wj_X12_findTurns J0 J) (hkx56 : ∀ (I1 : HI), Sm wi_X12_findTurns I0 I1 → Fo wi_X12_findTurns wj_X12_findTurns I0 J0 (kx56 I1)) : ∀ (K : Nat) (l3 : Int32) (I : HI) (hI : Sm wi_X12_findTurns I0 I), Fo wi_X12_findTurns wj_X12_findTurns I0 J0 (F_X12_findTurns_L11 l1 J kx56 K l3 I) := by
  intro K
  induction K with
  | zero => intro l3 I hI; exact Fo.none
  | succ K ih =>
    intro l3 I hI
    rw [F_X12_findTurns_L11]
    refine Fo.ite ?_ ?_
    · exact hkx56 _ hI
    · refine Fo.callp (fun r9 => ?_)
      refine Fo.jn (fun j => ∀ (I10 : HI), Sm wi_X12_findTurns I0 I10 → Fo wi_X12_findTurns wj_X12_findTurns I0 J0 (j I10)) (fun I10 hI10 => ?_) (fun j11 hj11 => ?_)
      · exact ih _ _ hI10
      · refine Fo.ite ?_ ?_
        · exact hj11 _ hI
        · refine Fo.gbx ?_
          refine Fo.lui rfl hI (fun I12 hI12 => ?_)
          refine Fo.lui rfl hI12 (fun I13 hI13 => ?_)
          exact hj11 _ hI13
theorem fr_X12_findTurns_L76 (I0 : HI) (J0 : HJ) (l1 : Int64) (l3 : Int32) (J : HJ) (kx136 : HI → Option (Unit × HI × HJ)) (hJ : Sm wj_X12_findTurns J0 J) (hkx136 : ∀ (I1 : HI), Sm wi_X12_findTurns I0 I1 → Fo wi_X12_findTurns wj_X12_findTurns I0 J0 (kx136 I1)) : ∀ (K : Nat) (l4 : Int32) (I : HI) (hI : Sm wi_X12_findTurns I0 I), Fo wi_X12_findTurns wj_X12_findTurns I0 J0 (F_X12_findTurns_L76 l1 l3 J kx136 K l4 I) := by
  intro K
  induction K with
  | zero => intro l4 I hI; exact Fo.none
  | succ K ih =>
    intro l4 I hI
    rw [F_X12_findTurns_L76]
    refine Fo.ite ?_ ?_
    · exact hkx136 _ hI
    · refine Fo.callp (fun r17 => ?_)
      refine Fo.ite ?_ ?_
      · exact hkx136 _ hI
      · refine Fo.gbx ?_
        refine Fo.gbx ?_
        refine Fo.gbx ?_
        refine Fo.callp (fun r18 => ?_)
        refine Fo.jn (fun j => ∀ (y19 : Int32) (y20 : Int32) (y21 : Int32), Fo wi_X12_findTurns wj_X12_findTurns I0 J0 (j y19 y20 y21)) (fun y19 y20 y21 => ?_) (fun j22 hj22 => ?_)
        · refine Fo.gbx ?_
          refine Fo.lui rfl hI (fun I23 hI23 => ?_)
          exact ih _ _ hI23
        · refine Fo.ite ?_ ?_
          · exact hj22 _ _ _
          · exact hj22 _ _ _
theorem fr_X12_findTurns_L58 (I0 : HI) (J0 : HJ) (l1 : Int64) (J : HJ) (hJ : Sm wj_X12_findTurns J0 J) : ∀ (K : Nat) (l3 : Int32) (I : HI) (hI : Sm wi_X12_findTurns I0 I), Fo wi_X12_findTurns wj_X12_findTurns I0 J0 (F_X12_findTurns_L58 l1 J K l3 I) := by
  intro K
  induction K with
  | zero => intro l3 I hI; exact Fo.none
  | succ K ih =>
    intro l3 I hI
    rw [F_X12_findTurns_L58]
    refine Fo.callp (fun r15 => ?_)
    refine Fo.ite ?_ ?_
    · exact Fo.some hI hJ
    · refine Fo.gbx ?_
      refine Fo.lui rfl hI (fun I16 hI16 => ?_)
      refine fr_X12_findTurns_L76 _ _ _ _ _ _ hJ (fun I24 hI24 => ?_) bgf _ _ hI16
      exact ih _ _ hI24
theorem fr_X12_findTurns (l1 : Int64) (I : HI) (J : HJ) : Fo wi_X12_findTurns wj_X12_findTurns I J (F_X12_findTurns l1 I J) := by
  suffices key : ∀ (I0 : HI) (J0 : HJ), Sm wi_X12_findTurns I0 I → Sm wj_X12_findTurns J0 J → Fo wi_X12_findTurns wj_X12_findTurns I0 J0 (F_X12_findTurns l1 I J) from key I J Sm.rf Sm.rf
  intro I0 J0 hI hJ
  unfold F_X12_findTurns
  refine Fo.call (fr_X12_findAll I J) (by decide) (by decide) hI hJ (fun _ I6 J7 hI6 hJ7 => ?_)
  refine Fo.lui rfl hI6 (fun I8 hI8 => ?_)
  refine fr_X12_findTurns_L11 _ _ _ _ _ hJ7 (fun I14 hI14 => ?_) bgf _ _ hI8
  refine fr_X12_findTurns_L58 _ _ _ _ hJ7 bgf _ _ hI14
theorem fr_X12_findParted_L23 (I0 : HI) (J0 : HJ) (l3 : Int32) (l4 : Int32) (J : HJ) (kx43 : HI → Option (Int32 × HI × HJ)) (hJ : Sm wj_X12_findParted J0 J) (hkx43 : ∀ (I1 : HI), Sm wi_X12_findParted I0 I1 → Fo wi_X12_findParted wj_X12_findParted I0 J0 (kx43 I1)) : ∀ (K : Nat) (l5 : Int32) (I : HI) (hI : Sm wi_X12_findParted I0 I), Fo wi_X12_findParted wj_X12_findParted I0 J0 (F_X12_findParted_L23 l3 l4 J kx43 K l5 I) := by
  intro K
  induction K with
  | zero => intro l5 I hI; exact Fo.none
  | succ K ih =>
    intro l5 I hI
    rw [F_X12_findParted_L23]
    refine Fo.ite ?_ ?_
    · exact hkx43 _ hI
    · refine Fo.gbx ?_
      refine Fo.lui rfl hI (fun I19 hI19 => ?_)
      exact ih _ _ hI19
theorem fr_X12_findParted_L49 (I0 : HI) (J0 : HJ) (l3 : Int32) (l4 : Int32) (J : HJ) (kx74 : HI → Option (Int32 × HI × HJ)) (hJ : Sm wj_X12_findParted J0 J) (hkx74 : ∀ (I1 : HI), Sm wi_X12_findParted I0 I1 → Fo wi_X12_findParted wj_X12_findParted I0 J0 (kx74 I1)) : ∀ (K : Nat) (l5 : Int32) (I : HI) (hI : Sm wi_X12_findParted I0 I), Fo wi_X12_findParted wj_X12_findParted I0 J0 (F_X12_findParted_L49 l3 l4 J kx74 K l5 I) := by
  intro K
  induction K with
  | zero => intro l5 I hI; exact Fo.none
  | succ K ih =>
    intro l5 I hI
    rw [F_X12_findParted_L49]
    refine Fo.ite ?_ ?_
    · exact hkx74 _ hI
    · refine Fo.gbx ?_
      refine Fo.gbx ?_
      refine Fo.lui rfl hI (fun I22 hI22 => ?_)
      exact ih _ _ hI22
theorem fr_X12_findParted_L104 (I0 : HI) (J0 : HJ) (l3 : Int32) (l4 : Int32) (l5 : Int32) (J : HJ) (kx173 : HI → Option (Int32 × HI × HJ)) (hJ : Sm wj_X12_findParted J0 J) (hkx173 : ∀ (I1 : HI), Sm wi_X12_findParted I0 I1 → Fo wi_X12_findParted wj_X12_findParted I0 J0 (kx173 I1)) : ∀ (K : Nat) (l6 : Int32) (I : HI) (hI : Sm wi_X12_findParted I0 I), Fo wi_X12_findParted wj_X12_findParted I0 J0 (F_X12_findParted_L104 l3 l4 l5 J kx173 K l6 I) := by
  intro K
  induction K with
  | zero => intro l6 I hI; exact Fo.none
  | succ K ih =>
    intro l6 I hI
    rw [F_X12_findParted_L104]
    refine Fo.ite ?_ ?_
    · exact hkx173 _ hI
    · refine Fo.gbx ?_
      refine Fo.jn (fun j => ∀ (I26 : HI), Sm wi_X12_findParted I0 I26 → Fo wi_X12_findParted wj_X12_findParted I0 J0 (j I26)) (fun I26 hI26 => ?_) (fun j27 hj27 => ?_)
      · exact ih _ _ hI26
      · refine Fo.ite ?_ ?_
        · exact hj27 _ hI
        · refine Fo.callp (fun r28 => ?_)
          refine Fo.ite ?_ ?_
          · exact hj27 _ hI
          · refine Fo.gbx ?_
            refine Fo.gbx ?_
            refine Fo.lui rfl hI (fun I29 hI29 => ?_)
            refine Fo.gbx ?_
            refine Fo.gbx ?_
            refine Fo.lui rfl hI29 (fun I30 hI30 => ?_)
            exact hj27 _ hI30
theorem fr_X12_findParted_L84 (I0 : HI) (J0 : HJ) (l3 : Int32) (l4 : Int32) (J : HJ) (kx179 : HI → Option (Int32 × HI × HJ)) (hJ : Sm wj_X12_findParted J0 J) (hkx179 : ∀ (I1 : HI), Sm wi_X12_findParted I0 I1 → Fo wi_X12_findParted wj_X12_findParted I0 J0 (kx179 I1)) : ∀ (K : Nat) (l5 : Int32) (I : HI) (hI : Sm wi_X12_findParted I0 I), Fo wi_X12_findParted wj_X12_findParted I0 J0 (F_X12_findParted_L84 l3 l4 J kx179 K l5 I) := by
  intro K
  induction K with
  | zero => intro l5 I hI; exact Fo.none
  | succ K ih =>
    intro l5 I hI
    rw [F_X12_findParted_L84]
    refine Fo.ite ?_ ?_
    · exact hkx179 _ hI
    · refine Fo.gbx ?_
      refine Fo.lui rfl hI (fun I25 hI25 => ?_)
      refine fr_X12_findParted_L104 _ _ _ _ _ _ _ hJ (fun I31 hI31 => ?_) bgf _ _ hI25
      exact ih _ _ hI31
theorem fr_X12_findParted_L208 (I0 : HI) (J0 : HJ) (l3 : Int32) (l4 : Int32) (l5 : Int32) (l6 : Int32) (J : HJ) (kx269 : HI → Option (Int32 × HI × HJ)) (hJ : Sm wj_X12_findParted J0 J) (hkx269 : ∀ (I1 : HI), Sm wi_X12_findParted I0 I1 → Fo wi_X12_findParted wj_X12_findParted I0 J0 (kx269 I1)) : ∀ (K : Nat) (l7 : Int32) (I : HI) (hI : Sm wi_X12_findParted I0 I), Fo wi_X12_findParted wj_X12_findParted I0 J0 (F_X12_findParted_L208 l3 l4 l5 l6 J kx269 K l7 I) := by
  intro K
  induction K with
  | zero => intro l7 I hI; exact Fo.none
  | succ K ih =>
    intro l7 I hI
    rw [F_X12_findParted_L208]
    refine Fo.gbx ?_
    refine Fo.ite ?_ ?_
    · exact hkx269 _ hI
    · refine Fo.gbx ?_
      refine Fo.gbx ?_
      refine Fo.gbx ?_
      refine Fo.gbx ?_
      refine Fo.lui rfl hI (fun I35 hI35 => ?_)
      exact ih _ _ hI35
theorem fr_X12_findParted_L182 (I0 : HI) (J0 : HJ) (l3 : Int32) (l4 : Int32) (J : HJ) (kx275 : HI → Option (Int32 × HI × HJ)) (hJ : Sm wj_X12_findParted J0 J) (hkx275 : ∀ (I1 : HI), Sm wi_X12_findParted I0 I1 → Fo wi_X12_findParted wj_X12_findParted I0 J0 (kx275 I1)) : ∀ (K : Nat) (l5 : Int32) (I : HI) (hI : Sm wi_X12_findParted I0 I), Fo wi_X12_findParted wj_X12_findParted I0 J0 (F_X12_findParted_L182 l3 l4 J kx275 K l5 I) := by
  intro K
  induction K with
  | zero => intro l5 I hI; exact Fo.none
  | succ K ih =>
    intro l5 I hI
    rw [F_X12_findParted_L182]
    refine Fo.ite ?_ ?_
    · exact hkx275 _ hI
    · refine Fo.gbx ?_
      refine Fo.lui rfl hI (fun I33 hI33 => ?_)
      refine Fo.callp (fun r34 => ?_)
      refine fr_X12_findParted_L208 _ _ _ _ _ _ _ _ hJ (fun I36 hI36 => ?_) bgf _ _ hI33
      exact ih _ _ hI36
theorem fr_X12_findParted_L300 (I0 : HI) (J0 : HJ) (l4 : Int32) (J : HJ) (hJ : Sm wj_X12_findParted J0 J) : ∀ (K : Nat) (l5 : Int32) (l6 : Int32) (I : HI) (hI : Sm wi_X12_findParted I0 I), Fo wi_X12_findParted wj_X12_findParted I0 J0 (F_X12_findParted_L300 l4 J K l5 l6 I) := by
  intro K
  induction K with
  | zero => intro l5 l6 I hI; exact Fo.none
  | succ K ih =>
    intro l5 l6 I hI
    rw [F_X12_findParted_L300]
    refine Fo.ite ?_ ?_
    · exact Fo.some hI hJ
    · refine Fo.ite ?_ ?_
      · exact Fo.some hI hJ
      · refine Fo.gbx ?_
        refine Fo.gbx ?_
        refine Fo.gbx ?_
        refine Fo.jn (fun j => ∀ (y39 : Int32) (I40 : HI), Sm wi_X12_findParted I0 I40 → Fo wi_X12_findParted wj_X12_findParted I0 J0 (j y39 I40)) (fun y39 I40 hI40 => ?_) (fun j41 hj41 => ?_)
        · exact ih _ _ _ hI40
        · refine Fo.ite ?_ ?_
          · refine Fo.gbx ?_
            refine Fo.lui rfl hI (fun I42 hI42 => ?_)
            refine Fo.lui rfl hI42 (fun I43 hI43 => ?_)
            refine Fo.gbx ?_
            refine Fo.lbv (fun x44 => ?_)
            exact hj41 _ _ hI43
          · exact hj41 _ _ hI
theorem fr_X12_findParted (l1 : Int64) (I : HI) (J : HJ) : Fo wi_X12_findParted wj_X12_findParted I J (F_X12_findParted l1 I J) := by
  suffices key : ∀ (I0 : HI) (J0 : HJ), Sm wi_X12_findParted I0 I → Sm wj_X12_findParted J0 J → Fo wi_X12_findParted wj_X12_findParted I0 J0 (F_X12_findParted l1 I J) from key I J Sm.rf Sm.rf
  intro I0 J0 hI hJ
  unfold F_X12_findParted
  refine Fo.call (fr_X12_findTurns l1 I J) (by decide) (by decide) hI hJ (fun _ I15 J16 hI15 hJ16 => ?_)
  refine Fo.lbv (fun x17 => ?_)
  refine Fo.callp (fun r18 => ?_)
  refine fr_X12_findParted_L23 _ _ _ _ _ _ hJ16 (fun I20 hI20 => ?_) bgf _ _ hI15
  refine Fo.lbv (fun x21 => ?_)
  refine fr_X12_findParted_L49 _ _ _ _ _ _ hJ16 (fun I23 hI23 => ?_) bgf _ _ hI20
  refine Fo.gbx ?_
  refine Fo.lui rfl hI23 (fun I24 hI24 => ?_)
  refine fr_X12_findParted_L84 _ _ _ _ _ _ hJ16 (fun I32 hI32 => ?_) bgf _ _ hI24
  refine fr_X12_findParted_L182 _ _ _ _ _ _ hJ16 (fun I37 hI37 => ?_) bgf _ _ hI32
  refine Fo.gbx ?_
  refine Fo.ite ?_ ?_
  · refine Fo.lui rfl hI37 (fun I38 hI38 => ?_)
    refine fr_X12_findParted_L300 _ _ _ _ hJ16 bgf _ _ _ hI38
  · exact Fo.some hI37 hJ16
theorem fr_X12_tellTurns_L2 (I0 : HI) (J0 : HJ)  : ∀ (K : Nat) (l1 : Int32) (I : HI) (J : HJ) (hI : Sm wi_X12_tellTurns I0 I) (hJ : Sm wj_X12_tellTurns J0 J), Fo wi_X12_tellTurns wj_X12_tellTurns I0 J0 (F_X12_tellTurns_L2 K l1 I J) := by
  intro K
  induction K with
  | zero => intro l1 I J hI hJ; exact Fo.none
  | succ K ih =>
    intro l1 I J hI hJ
    rw [F_X12_tellTurns_L2]
    refine Fo.ite ?_ ?_
    · exact Fo.some hI hJ
    · refine Fo.gbx ?_
      refine Fo.call (fr_X12_tell (Int32.toInt64 (I m_turn (Int32.toNatClampNeg l1))) I J) (by decide) (by decide) hI hJ (fun _ I1 J2 hI1 hJ2 => ?_)
      exact ih _ _ _ hI1 hJ2
theorem fr_X12_tellTurns  (I : HI) (J : HJ) : Fo wi_X12_tellTurns wj_X12_tellTurns I J (F_X12_tellTurns  I J) := by
  suffices key : ∀ (I0 : HI) (J0 : HJ), Sm wi_X12_tellTurns I0 I → Sm wj_X12_tellTurns J0 J → Fo wi_X12_tellTurns wj_X12_tellTurns I0 J0 (F_X12_tellTurns  I J) from key I J Sm.rf Sm.rf
  intro I0 J0 hI hJ
  unfold F_X12_tellTurns
  refine fr_X12_tellTurns_L2 _ _ bgf _ _ _ hI hJ
theorem fr_X12_parted (l1 : Int32) (I : HI) (J : HJ) : Fo wi_X12_parted wj_X12_parted I J (F_X12_parted l1 I J) := by
  suffices key : ∀ (I0 : HI) (J0 : HJ), Sm wi_X12_parted I0 I → Sm wj_X12_parted J0 J → Fo wi_X12_parted wj_X12_parted I0 J0 (F_X12_parted l1 I J) from key I J Sm.rf Sm.rf
  intro I0 J0 hI hJ
  unfold F_X12_parted
  refine Fo.lui rfl hI (fun I3 hI3 => ?_)
  refine Fo.callp (fun r4 => ?_)
  refine Fo.ite ?_ ?_
  · refine Fo.gbx ?_
    refine Fo.call (fr_X12_findParted (J m_pictures (Int32.toNatClampNeg l1)) I3 J) (by decide) (by decide) hI3 hJ (fun r5 I6 J7 hI6 hJ7 => ?_)
    refine Fo.ite ?_ ?_
    · exact Fo.some hI6 hJ7
    · refine Fo.lui rfl hI6 (fun I8 hI8 => ?_)
      refine Fo.call (fr_X12_tellTurns I8 J7) (by decide) (by decide) hI8 hJ7 (fun _ I9 J10 hI9 hJ10 => ?_)
      exact Fo.some hI9 hJ10
  · exact Fo.some hI3 hJ
theorem fr_X12_proof_L64 (I0 : HI) (J0 : HJ) (l3 : Int32) (l4 : Int32) (I : HI) (J : HJ) (kx108 : Int32 → Option (Int32 × HI × HJ)) (hI : Sm wi_X12_proof I0 I) (hJ : Sm wj_X12_proof J0 J) (hkx108 : ∀ (y5 : Int32), Fo wi_X12_proof wj_X12_proof I0 J0 (kx108 y5)) : ∀ (K : Nat) (l5 : Int32) (l6 : Int32), Fo wi_X12_proof wj_X12_proof I0 J0 (F_X12_proof_L64 l3 l4 I J kx108 K l5 l6) := by
  intro K
  induction K with
  | zero => intro l5 l6; exact Fo.none
  | succ K ih =>
    intro l5 l6
    rw [F_X12_proof_L64]
    refine Fo.callp (fun r12 => ?_)
    refine Fo.ite ?_ ?_
    · exact hkx108 _
    · refine Fo.ite ?_ ?_
      · exact hkx108 _
      · refine Fo.gbx ?_
        refine Fo.callp (fun r13 => ?_)
        refine Fo.jn (fun j => ∀ (y14 : Int32), Fo wi_X12_proof wj_X12_proof I0 J0 (j y14)) (fun y14 => ?_) (fun j15 hj15 => ?_)
        · exact ih _ _
        · refine Fo.ite ?_ ?_
          · exact hj15 _
          · exact hj15 _
theorem fr_X12_proof_L32 (I0 : HI) (J0 : HJ) (I : HI) (J : HJ) (kx122 : Int32 → Option (Int32 × HI × HJ)) (hI : Sm wi_X12_proof I0 I) (hJ : Sm wj_X12_proof J0 J) (hkx122 : ∀ (y3 : Int32), Fo wi_X12_proof wj_X12_proof I0 J0 (kx122 y3)) : ∀ (K : Nat) (l3 : Int32) (l4 : Int32), Fo wi_X12_proof wj_X12_proof I0 J0 (F_X12_proof_L32 I J kx122 K l3 l4) := by
  intro K
  induction K with
  | zero => intro l3 l4; exact Fo.none
  | succ K ih =>
    intro l3 l4
    rw [F_X12_proof_L32]
    refine Fo.ite ?_ ?_
    · exact hkx122 _
    · refine Fo.callp (fun r8 => ?_)
      refine Fo.callp (fun r9 => ?_)
      refine Fo.jn (fun j => ∀ (y10 : Int32), Fo wi_X12_proof wj_X12_proof I0 J0 (j y10)) (fun y10 => ?_) (fun j11 hj11 => ?_)
      · exact ih _ _
      · refine Fo.ite ?_ ?_
        · refine fr_X12_proof_L64 _ _ _ _ _ _ _ hI hJ (fun y16 => ?_) bgf _ _
          refine Fo.ite ?_ ?_
          · exact hj11 _
          · exact hj11 _
        · exact hj11 _
theorem fr_X12_proof_L128 (I0 : HI) (J0 : HJ) (l3 : Int32) (I : HI) (J : HJ) (kx171 : Int64 → Option (Int32 × HI × HJ)) (hI : Sm wi_X12_proof I0 I) (hJ : Sm wj_X12_proof J0 J) (hkx171 : ∀ (y4 : Int64), Fo wi_X12_proof wj_X12_proof I0 J0 (kx171 y4)) : ∀ (K : Nat) (l4 : Int64) (l6 : Int32), Fo wi_X12_proof wj_X12_proof I0 J0 (F_X12_proof_L128 l3 I J kx171 K l4 l6) := by
  intro K
  induction K with
  | zero => intro l4 l6; exact Fo.none
  | succ K ih =>
    intro l4 l6
    rw [F_X12_proof_L128]
    refine Fo.ite ?_ ?_
    · exact hkx171 _
    · refine Fo.callp (fun r18 => ?_)
      refine Fo.jn (fun j => ∀ (y19 : Int64) (y20 : Int64), Fo wi_X12_proof wj_X12_proof I0 J0 (j y19 y20)) (fun y19 y20 => ?_) (fun j21 hj21 => ?_)
      · refine Fo.lbv (fun x22 => ?_)
        exact ih _ _
      · refine Fo.ite ?_ ?_
        · exact hj21 _ _
        · refine Fo.gbx ?_
          exact hj21 _ _
theorem fr_X12_proof (l1 : Int32) (I : HI) (J : HJ) : Fo wi_X12_proof wj_X12_proof I J (F_X12_proof l1 I J) := by
  suffices key : ∀ (I0 : HI) (J0 : HJ), Sm wi_X12_proof I0 I → Sm wj_X12_proof J0 J → Fo wi_X12_proof wj_X12_proof I0 J0 (F_X12_proof l1 I J) from key I J Sm.rf Sm.rf
  intro I0 J0 hI hJ
  unfold F_X12_proof
  refine Fo.lui rfl hI (fun I4 hI4 => ?_)
  refine Fo.callp (fun r5 => ?_)
  refine Fo.ite ?_ ?_
  · refine Fo.gbx ?_
    refine Fo.call (fr_X12_findTurns (J m_pictures (Int32.toNatClampNeg l1)) I4 J) (by decide) (by decide) hI4 hJ (fun _ I6 J7 hI6 hJ7 => ?_)
    refine fr_X12_proof_L32 _ _ _ _ _ hI6 hJ7 (fun y17 => ?_) bgf _ _
    refine fr_X12_proof_L128 _ _ _ _ _ _ hI6 hJ7 (fun y23 => ?_) bgf _ _
    refine Fo.lui rfl hI6 (fun I24 hI24 => ?_)
    refine Fo.call (fr_X12_tell y23 I24 J7) (by decide) (by decide) hI24 hJ7 (fun _ I25 J26 hI25 hJ26 => ?_)
    refine Fo.callp (fun r27 => ?_)
    exact Fo.some hI25 hJ26
  · exact Fo.some hI4 hJ
theorem fr_X12_never_L46 (I0 : HI) (J0 : HJ) (l1 : Int32) (I : HI) (J : HJ) (hI : Sm wi_X12_never I0 I) (hJ : Sm wj_X12_never J0 J) : ∀ (K : Nat) (l2 : Int64) (l4 : Int32), Fo wi_X12_never wj_X12_never I0 J0 (F_X12_never_L46 l1 I J K l2 l4) := by
  intro K
  induction K with
  | zero => intro l2 l4; exact Fo.none
  | succ K ih =>
    intro l2 l4
    rw [F_X12_never_L46]
    refine Fo.callp (fun r10 => ?_)
    refine Fo.ite ?_ ?_
    · exact Fo.some hI hJ
    · refine Fo.gbx ?_
      refine Fo.callp (fun r11 => ?_)
      refine Fo.jn (fun j => ∀ (y12 : Int64), Fo wi_X12_never wj_X12_never I0 J0 (j y12)) (fun y12 => ?_) (fun j13 hj13 => ?_)
      · exact ih _ _
      · refine Fo.ite ?_ ?_
        · exact hj13 _
        · refine Fo.gbx ?_
          refine Fo.lbv (fun x14 => ?_)
          exact hj13 _
theorem fr_X12_never (l1 : Int32) (I : HI) (J : HJ) : Fo wi_X12_never wj_X12_never I J (F_X12_never l1 I J) := by
  suffices key : ∀ (I0 : HI) (J0 : HJ), Sm wi_X12_never I0 I → Sm wj_X12_never J0 J → Fo wi_X12_never wj_X12_never I0 J0 (F_X12_never l1 I J) from key I J Sm.rf Sm.rf
  intro I0 J0 hI hJ
  unfold F_X12_never
  refine Fo.lui rfl hI (fun I4 hI4 => ?_)
  refine Fo.callp (fun r5 => ?_)
  refine Fo.ite ?_ ?_
  · exact Fo.some hI4 hJ
  · refine Fo.callp (fun r6 => ?_)
    refine Fo.ite ?_ ?_
    · exact Fo.some hI4 hJ
    · refine Fo.call (fr_X12_findAll I4 J) (by decide) (by decide) hI4 hJ (fun _ I7 J8 hI7 hJ8 => ?_)
      refine Fo.gbx ?_
      refine Fo.lbv (fun x9 => ?_)
      refine fr_X12_never_L46 _ _ _ _ _ hI7 hJ8 bgf _ _
theorem fr_X12_goOrders_L65 (rc : Int32 → Int32 → Int32 → Int32 → HI → HJ → Option (Unit × HI × HJ)) (hrc : ∀ (a0 : Int32) (a1 : Int32) (a2 : Int32) (a3 : Int32) (I : HI) (J : HJ), Fo wi_X12_goOrders wj_X12_goOrders I J (rc a0 a1 a2 a3 I J)) (I0 : HI) (J0 : HJ) (l1 : Int32) (l2 : Int32) (l3 : Int32) (l4 : Int32) : ∀ (K : Nat) (l5 : Int32) (I : HI) (J : HJ) (hI : Sm wi_X12_goOrders I0 I) (hJ : Sm wj_X12_goOrders J0 J), Fo wi_X12_goOrders wj_X12_goOrders I0 J0 (F_X12_goOrders_L65 rc l1 l2 l3 l4 K l5 I J) := by
  intro K
  induction K with
  | zero => intro l5 I J hI hJ; exact Fo.none
  | succ K ih =>
    intro l5 I J hI hJ
    rw [F_X12_goOrders_L65]
    refine Fo.ite ?_ ?_
    · exact Fo.some hI hJ
    · refine Fo.callp (fun r4 => ?_)
      refine Fo.jn (fun j => ∀ (I5 : HI) (J6 : HJ), Sm wi_X12_goOrders I0 I5 → Sm wj_X12_goOrders J0 J6 → Fo wi_X12_goOrders wj_X12_goOrders I0 J0 (j I5 J6)) (fun I5 J6 hI5 hJ6 => ?_) (fun j7 hj7 => ?_)
      · exact ih _ _ _ hI5 hJ6
      · refine Fo.ite ?_ ?_
        · refine Fo.gbx ?_
          refine Fo.gbx ?_
          refine Fo.lui rfl hI (fun I8 hI8 => ?_)
          refine Fo.gbx ?_
          refine Fo.gbx ?_
          refine Fo.callp (fun r9 => ?_)
          refine Fo.call (hrc (l1 + (1 : Int32)) (l2 ||| (oshl (1 : Int32) l5)) (I8 m_turn (Int32.toNatClampNeg l5)) (l4 + r9) I8 J) (by decide) (by decide) hI8 hJ (fun _ I10 J11 hI10 hJ11 => ?_)
          exact hj7 _ _ hI10 hJ11
        · exact hj7 _ _ hI hJ
theorem fr_X12_goOrders_L35 (rc : Int32 → Int32 → Int32 → Int32 → HI → HJ → Option (Unit × HI × HJ)) (hrc : ∀ (a0 : Int32) (a1 : Int32) (a2 : Int32) (a3 : Int32) (I : HI) (J : HJ), Fo wi_X12_goOrders wj_X12_goOrders I J (rc a0 a1 a2 a3 I J)) (I0 : HI) (J0 : HJ) (l1 : Int32) (J : HJ) (hJ : Sm wj_X12_goOrders J0 J) : ∀ (K : Nat) (l5 : Int32) (I : HI) (hI : Sm wi_X12_goOrders I0 I), Fo wi_X12_goOrders wj_X12_goOrders I0 J0 (F_X12_goOrders_L35 rc l1 J K l5 I) := by
  intro K
  induction K with
  | zero => intro l5 I hI; exact Fo.none
  | succ K ih =>
    intro l5 I hI
    rw [F_X12_goOrders_L35]
    refine Fo.ite ?_ ?_
    · exact Fo.some hI hJ
    · refine Fo.gbx ?_
      refine Fo.gbx ?_
      refine Fo.lui rfl hI (fun I14 hI14 => ?_)
      exact ih _ _ hI14
theorem fr_X12_goOrders_B (rc : Int32 → Int32 → Int32 → Int32 → HI → HJ → Option (Unit × HI × HJ)) (hrc : ∀ (a0 : Int32) (a1 : Int32) (a2 : Int32) (a3 : Int32) (I : HI) (J : HJ), Fo wi_X12_goOrders wj_X12_goOrders I J (rc a0 a1 a2 a3 I J)) (l1 : Int32) (l2 : Int32) (l3 : Int32) (l4 : Int32) (I : HI) (J : HJ) : Fo wi_X12_goOrders wj_X12_goOrders I J (F_X12_goOrders_B rc l1 l2 l3 l4 I J) := by
  suffices key : ∀ (I0 : HI) (J0 : HJ), Sm wi_X12_goOrders I0 I → Sm wj_X12_goOrders J0 J → Fo wi_X12_goOrders wj_X12_goOrders I0 J0 (F_X12_goOrders_B rc l1 l2 l3 l4 I J) from key I J Sm.rf Sm.rf
  intro I0 J0 hI hJ
  unfold F_X12_goOrders_B
  refine Fo.ite ?_ ?_
  · refine Fo.jn (fun j => Fo wi_X12_goOrders wj_X12_goOrders I0 J0 (j)) ?_ (fun j12 hj12 => ?_)
    · refine Fo.lui rfl hI (fun I13 hI13 => ?_)
      refine fr_X12_goOrders_L35 rc hrc _ _ _ _ hJ bgf _ _ hI13
    · refine Fo.ite ?_ ?_
      · exact hj12
      · refine Fo.ite ?_ ?_
        · exact hj12
        · exact Fo.some hI hJ
  · refine fr_X12_goOrders_L65 rc hrc _ _ _ _ _ _ bgf _ _ _ hI hJ
theorem fr_X12_goOrders : ∀ (n : Nat) (l1 : Int32) (l2 : Int32) (l3 : Int32) (l4 : Int32) (I : HI) (J : HJ), Fo wi_X12_goOrders wj_X12_goOrders I J (F_X12_goOrders n l1 l2 l3 l4 I J) := by
  intro n
  induction n with
  | zero => intro l1 l2 l3 l4 I J; exact Fo.none
  | succ n ih => intro l1 l2 l3 l4 I J; exact fr_X12_goOrders_B (F_X12_goOrders n) ih l1 l2 l3 l4 I J
theorem fr_X12_changes_L65 (I0 : HI) (J0 : HJ) (kx90 : HI → HJ → Option (Int32 × HI × HJ)) (hkx90 : ∀ (I1 : HI) (J1 : HJ), Sm wi_X12_changes I0 I1 → Sm wj_X12_changes J0 J1 → Fo wi_X12_changes wj_X12_changes I0 J0 (kx90 I1 J1)) : ∀ (K : Nat) (l3 : Int32) (I : HI) (J : HJ) (hI : Sm wi_X12_changes I0 I) (hJ : Sm wj_X12_changes J0 J), Fo wi_X12_changes wj_X12_changes I0 J0 (F_X12_changes_L65 kx90 K l3 I J) := by
  intro K
  induction K with
  | zero => intro l3 I J hI hJ; exact Fo.none
  | succ K ih =>
    intro l3 I J hI hJ
    rw [F_X12_changes_L65]
    refine Fo.ite ?_ ?_
    · exact hkx90 _ _ hI hJ
    · refine Fo.gbx ?_
      refine Fo.call (fr_X12_tell (Int32.toInt64 (I m_bestOrder (Int32.toNatClampNeg l3))) I J) (by decide) (by decide) hI hJ (fun _ I13 J14 hI13 hJ14 => ?_)
      exact ih _ _ _ hI13 hJ14
theorem fr_X12_changes (l1 : Int32) (I : HI) (J : HJ) : Fo wi_X12_changes wj_X12_changes I J (F_X12_changes l1 I J) := by
  suffices key : ∀ (I0 : HI) (J0 : HJ), Sm wi_X12_changes I0 I → Sm wj_X12_changes J0 J → Fo wi_X12_changes wj_X12_changes I0 J0 (F_X12_changes l1 I J) from key I J Sm.rf Sm.rf
  intro I0 J0 hI hJ
  unfold F_X12_changes
  refine Fo.lui rfl hI (fun I4 hI4 => ?_)
  refine Fo.callp (fun r5 => ?_)
  refine Fo.ite ?_ ?_
  · refine Fo.gbx ?_
    refine Fo.call (fr_X12_findParted (J m_pictures (Int32.toNatClampNeg l1)) I4 J) (by decide) (by decide) hI4 hJ (fun r6 I7 J8 hI7 hJ8 => ?_)
    refine Fo.ite ?_ ?_
    · exact Fo.some hI7 hJ8
    · refine Fo.ite ?_ ?_
      · refine Fo.lui rfl hI7 (fun I9 hI9 => ?_)
        refine Fo.call (fr_X12_goOrders 20 (0 : Int32) (0 : Int32) (0 : Int32) (0 : Int32) I9 J8) (by decide) (by decide) hI9 hJ8 (fun _ I10 J11 hI10 hJ11 => ?_)
        refine Fo.lui rfl hI10 (fun I12 hI12 => ?_)
        refine fr_X12_changes_L65 _ _ _ (fun I15 J16 hI15 hJ16 => ?_) bgf _ _ _ hI12 hJ11
        exact Fo.some hI15 hJ16
      · exact Fo.some hI7 hJ8
  · exact Fo.some hI4 hJ
theorem fr_X12_even_L119 (I0 : HI) (J0 : HJ) (l2 : Int32) (l4 : Int32) (I : HI) (kx159 : HJ → Option (Int64 × HI × HJ)) (hI : Sm wi_X12_even I0 I) (hkx159 : ∀ (J1 : HJ), Sm wj_X12_even J0 J1 → Fo wi_X12_even wj_X12_even I0 J0 (kx159 J1)) : ∀ (K : Nat) (l5 : Int32) (J : HJ) (hJ : Sm wj_X12_even J0 J), Fo wi_X12_even wj_X12_even I0 J0 (F_X12_even_L119 l2 l4 I kx159 K l5 J) := by
  intro K
  induction K with
  | zero => intro l5 J hJ; exact Fo.none
  | succ K ih =>
    intro l5 J hJ
    rw [F_X12_even_L119]
    refine Fo.ite ?_ ?_
    · exact hkx159 _ hJ
    · refine Fo.gbx ?_
      refine Fo.gbx ?_
      refine Fo.gbx ?_
      refine Fo.luj rfl hJ (fun J18 hJ18 => ?_)
      exact ih _ _ hJ18
theorem fr_X12_even_L81 (I0 : HI) (J0 : HJ) (l2 : Int32) (kx173 : HI → HJ → Option (Int64 × HI × HJ)) (hkx173 : ∀ (I1 : HI) (J1 : HJ), Sm wi_X12_even I0 I1 → Sm wj_X12_even J0 J1 → Fo wi_X12_even wj_X12_even I0 J0 (kx173 I1 J1)) : ∀ (K : Nat) (l4 : Int32) (I : HI) (J : HJ) (hI : Sm wi_X12_even I0 I) (hJ : Sm wj_X12_even J0 J), Fo wi_X12_even wj_X12_even I0 J0 (F_X12_even_L81 l2 kx173 K l4 I J) := by
  intro K
  induction K with
  | zero => intro l4 I J hI hJ; exact Fo.none
  | succ K ih =>
    intro l4 I J hI hJ
    rw [F_X12_even_L81]
    refine Fo.ite ?_ ?_
    · exact hkx173 _ _ hI hJ
    · refine Fo.gbx ?_
      refine Fo.callp (fun r14 => ?_)
      refine Fo.gbx ?_
      refine Fo.callp (fun r15 => ?_)
      refine Fo.call (fr_X12_shine r14 r15 I J) (by decide) (by decide) hI hJ (fun _ I16 J17 hI16 hJ17 => ?_)
      refine fr_X12_even_L119 _ _ _ _ _ _ hI16 (fun J19 hJ19 => ?_) bgf _ _ hJ17
      refine Fo.gbx ?_
      refine Fo.lui rfl hI16 (fun I20 hI20 => ?_)
      exact ih _ _ _ hI20 hJ19
theorem fr_X12_even_L198 (I0 : HI) (J0 : HJ) (l4 : Int32) (l5 : Int32) (I : HI) (J : HJ) (kx247 : Int32 → Option (Int64 × HI × HJ)) (hI : Sm wi_X12_even I0 I) (hJ : Sm wj_X12_even J0 J) (hkx247 : ∀ (y6 : Int32), Fo wi_X12_even wj_X12_even I0 J0 (kx247 y6)) : ∀ (K : Nat) (l6 : Int32) (l7 : Int32), Fo wi_X12_even wj_X12_even I0 J0 (F_X12_even_L198 l4 l5 I J kx247 K l6 l7) := by
  intro K
  induction K with
  | zero => intro l6 l7; exact Fo.none
  | succ K ih =>
    intro l6 l7
    rw [F_X12_even_L198]
    refine Fo.ite ?_ ?_
    · exact hkx247 _
    · refine Fo.gbx ?_
      refine Fo.gbx ?_
      refine Fo.jn (fun j => ∀ (y25 : Int32), Fo wi_X12_even wj_X12_even I0 J0 (j y25)) (fun y25 => ?_) (fun j26 hj26 => ?_)
      · exact ih _ _
      · refine Fo.ite ?_ ?_
        · exact hj26 _
        · exact hj26 _
theorem fr_X12_even_L181 (I0 : HI) (J0 : HJ) (J : HJ) (kx264 : HI → Option (Int64 × HI × HJ)) (hJ : Sm wj_X12_even J0 J) (hkx264 : ∀ (I1 : HI), Sm wi_X12_even I0 I1 → Fo wi_X12_even wj_X12_even I0 J0 (kx264 I1)) : ∀ (K : Nat) (l4 : Int32) (I : HI) (hI : Sm wi_X12_even I0 I), Fo wi_X12_even wj_X12_even I0 J0 (F_X12_even_L181 J kx264 K l4 I) := by
  intro K
  induction K with
  | zero => intro l4 I hI; exact Fo.none
  | succ K ih =>
    intro l4 I hI
    rw [F_X12_even_L181]
    refine Fo.ite ?_ ?_
    · exact hkx264 _ hI
    · refine Fo.callp (fun r24 => ?_)
      refine fr_X12_even_L198 _ _ _ _ _ _ _ hI hJ (fun y27 => ?_) bgf _ _
      refine Fo.gbx ?_
      refine Fo.gbx ?_
      refine Fo.lui rfl hI (fun I28 hI28 => ?_)
      exact ih _ _ hI28
theorem fr_X12_even_L267 (I0 : HI) (J0 : HJ) (kx294 : HI → HJ → Option (Int64 × HI × HJ)) (hkx294 : ∀ (I1 : HI) (J1 : HJ), Sm wi_X12_even I0 I1 → Sm wj_X12_even J0 J1 → Fo wi_X12_even wj_X12_even I0 J0 (kx294 I1 J1)) : ∀ (K : Nat) (l4 : Int32) (I : HI) (J : HJ) (hI : Sm wi_X12_even I0 I) (hJ : Sm wj_X12_even J0 J), Fo wi_X12_even wj_X12_even I0 J0 (F_X12_even_L267 kx294 K l4 I J) := by
  intro K
  induction K with
  | zero => intro l4 I J hI hJ; exact Fo.none
  | succ K ih =>
    intro l4 I J hI hJ
    rw [F_X12_even_L267]
    refine Fo.ite ?_ ?_
    · exact hkx294 _ _ hI hJ
    · refine Fo.gbx ?_
      refine Fo.call (fr_X12_tell (Int32.toInt64 (I m_slots (Int32.toNatClampNeg l4))) I J) (by decide) (by decide) hI hJ (fun _ I30 J31 hI30 hJ31 => ?_)
      exact ih _ _ _ hI30 hJ31
theorem fr_X12_even (l1 : Int32) (l2 : Int32) (I : HI) (J : HJ) : Fo wi_X12_even wj_X12_even I J (F_X12_even l1 l2 I J) := by
  suffices key : ∀ (I0 : HI) (J0 : HJ), Sm wi_X12_even I0 I → Sm wj_X12_even J0 J → Fo wi_X12_even wj_X12_even I0 J0 (F_X12_even l1 l2 I J) from key I J Sm.rf Sm.rf
  intro I0 J0 hI hJ
  unfold F_X12_even
  refine Fo.lui rfl hI (fun I7 hI7 => ?_)
  refine Fo.callp (fun r8 => ?_)
  refine Fo.ite ?_ ?_
  · exact Fo.some hI7 hJ
  · refine Fo.callp (fun r9 => ?_)
    refine Fo.ite ?_ ?_
    · exact Fo.some hI7 hJ
    · refine Fo.ite ?_ ?_
      · refine Fo.gbx ?_
        refine Fo.call (fr_X12_findParted (J m_pictures (Int32.toNatClampNeg l1)) I7 J) (by decide) (by decide) hI7 hJ (fun r10 I11 J12 hI11 hJ12 => ?_)
        refine Fo.ite ?_ ?_
        · exact Fo.some hI11 hJ12
        · refine Fo.ite ?_ ?_
          · refine Fo.lui rfl hI11 (fun I13 hI13 => ?_)
            refine Fo.ite ?_ ?_
            · exact Fo.some hI13 hJ12
            · refine fr_X12_even_L81 _ _ _ _ (fun I21 J22 hI21 hJ22 => ?_) bgf _ _ _ hI13 hJ12
              refine Fo.lbv (fun x23 => ?_)
              refine fr_X12_even_L181 _ _ _ _ hJ22 (fun I29 hI29 => ?_) bgf _ _ hI21
              refine fr_X12_even_L267 _ _ _ (fun I32 J33 hI32 hJ33 => ?_) bgf _ _ _ hI29 hJ22
              refine Fo.callp (fun r34 => ?_)
              refine Fo.callp (fun r35 => ?_)
              exact Fo.some hI32 hJ33
          · exact Fo.some hI11 hJ12
      · exact Fo.some hI7 hJ
theorem fr_X12_better_L97 (I0 : HI) (J0 : HJ) (l1 : Int32) (l2 : Int32) (l6 : Int32) (kx181 : Int32 → Int32 → Int32 → HI → HJ → Option (Int32 × HI × HJ)) (hkx181 : ∀ (y3 : Int32) (y4 : Int32) (y5 : Int32) (I1 : HI) (J1 : HJ), Sm wi_X12_better I0 I1 → Sm wj_X12_better J0 J1 → Fo wi_X12_better wj_X12_better I0 J0 (kx181 y3 y4 y5 I1 J1)) : ∀ (K : Nat) (l3 : Int32) (l4 : Int32) (l5 : Int32) (l7 : Int32) (I : HI) (J : HJ) (hI : Sm wi_X12_better I0 I) (hJ : Sm wj_X12_better J0 J), Fo wi_X12_better wj_X12_better I0 J0 (F_X12_better_L97 l1 l2 l6 kx181 K l3 l4 l5 l7 I J) := by
  intro K
  induction K with
  | zero => intro l3 l4 l5 l7 I J hI hJ; exact Fo.none
  | succ K ih =>
    intro l3 l4 l5 l7 I J hI hJ
    rw [F_X12_better_L97]
    refine Fo.ite ?_ ?_
    · exact hkx181 _ _ _ _ _ hI hJ
    · refine Fo.call (fr_X12_change l6 l7 I J) (by decide) (by decide) hI hJ (fun _ I14 J15 hI14 hJ15 => ?_)
      refine Fo.gbx ?_
      refine Fo.call (fr_X12_findParted (J15 m_pictures (Int32.toNatClampNeg l1)) I14 J15) (by decide) (by decide) hI14 hJ15 (fun r16 I17 J18 hI17 hJ18 => ?_)
      refine Fo.jn (fun j => ∀ (y19 : Int32), Fo wi_X12_better wj_X12_better I0 J0 (j y19)) (fun y19 => ?_) (fun j20 hj20 => ?_)
      · refine Fo.call (fr_X12_change l6 l7 I17 J18) (by decide) (by decide) hI17 hJ18 (fun _ I21 J22 hI21 hJ22 => ?_)
        refine Fo.jn (fun j => ∀ (y23 : Int32) (y24 : Int32) (y25 : Int32), Fo wi_X12_better wj_X12_better I0 J0 (j y23 y24 y25)) (fun y23 y24 y25 => ?_) (fun j26 hj26 => ?_)
        · exact ih _ _ _ _ _ _ hI21 hJ22
        · refine Fo.ite ?_ ?_
          · exact hj26 _ _ _
          · refine Fo.lbv (fun x27 => ?_)
            exact hj26 _ _ _
      · refine Fo.jn (fun j => Fo wi_X12_better wj_X12_better I0 J0 (j)) ?_ (fun j28 hj28 => ?_)
        · exact hj20 _
        · refine Fo.ite ?_ ?_
          · exact hj28
          · refine Fo.jn (fun j => Fo wi_X12_better wj_X12_better I0 J0 (j)) ?_ (fun j29 hj29 => ?_)
            · exact hj20 _
            · refine Fo.ite ?_ ?_
              · exact hj29
              · refine Fo.ite ?_ ?_
                · exact hj28
                · exact hj29
theorem fr_X12_better_L82 (I0 : HI) (J0 : HJ) (l1 : Int32) (l2 : Int32) (kx187 : Int32 → Int32 → Int32 → HI → HJ → Option (Int32 × HI × HJ)) (hkx187 : ∀ (y3 : Int32) (y4 : Int32) (y5 : Int32) (I1 : HI) (J1 : HJ), Sm wi_X12_better I0 I1 → Sm wj_X12_better J0 J1 → Fo wi_X12_better wj_X12_better I0 J0 (kx187 y3 y4 y5 I1 J1)) : ∀ (K : Nat) (l3 : Int32) (l4 : Int32) (l5 : Int32) (l6 : Int32) (I : HI) (J : HJ) (hI : Sm wi_X12_better I0 I) (hJ : Sm wj_X12_better J0 J), Fo wi_X12_better wj_X12_better I0 J0 (F_X12_better_L82 l1 l2 kx187 K l3 l4 l5 l6 I J) := by
  intro K
  induction K with
  | zero => intro l3 l4 l5 l6 I J hI hJ; exact Fo.none
  | succ K ih =>
    intro l3 l4 l5 l6 I J hI hJ
    rw [F_X12_better_L82]
    refine Fo.ite ?_ ?_
    · exact hkx187 _ _ _ _ _ hI hJ
    · refine Fo.lbv (fun x13 => ?_)
      refine fr_X12_better_L97 _ _ _ _ _ _ (fun y30 y31 y32 I33 J34 hI33 hJ34 => ?_) bgf _ _ _ _ _ _ hI hJ
      exact ih _ _ _ _ _ _ hI33 hJ34
theorem fr_X12_better (l1 : Int32) (I : HI) (J : HJ) : Fo wi_X12_better wj_X12_better I J (F_X12_better l1 I J) := by
  suffices key : ∀ (I0 : HI) (J0 : HJ), Sm wi_X12_better I0 I → Sm wj_X12_better J0 J → Fo wi_X12_better wj_X12_better I0 J0 (F_X12_better l1 I J) from key I J Sm.rf Sm.rf
  intro I0 J0 hI hJ
  unfold F_X12_better
  refine Fo.lui rfl hI (fun I6 hI6 => ?_)
  refine Fo.callp (fun r7 => ?_)
  refine Fo.ite ?_ ?_
  · exact Fo.some hI6 hJ
  · refine Fo.ite ?_ ?_
    · refine Fo.ite ?_ ?_
      · exact Fo.some hI6 hJ
      · refine Fo.ite ?_ ?_
        · refine Fo.gbx ?_
          refine Fo.call (fr_X12_findParted (J m_pictures (Int32.toNatClampNeg l1)) I6 J) (by decide) (by decide) hI6 hJ (fun r8 I9 J10 hI9 hJ10 => ?_)
          refine Fo.jn (fun j => ∀ (y11 : Int32), Fo wi_X12_better wj_X12_better I0 J0 (j y11)) (fun y11 => ?_) (fun j12 hj12 => ?_)
          · refine fr_X12_better_L82 _ _ _ _ _ (fun y35 y36 y37 I38 J39 hI38 hJ39 => ?_) bgf _ _ _ _ _ _ hI9 hJ10
            refine Fo.ite ?_ ?_
            · refine Fo.lui rfl hI38 (fun I40 hI40 => ?_)
              refine Fo.call (fr_X12_tell (Int32.toInt64 y36) I40 J39) (by decide) (by decide) hI40 hJ39 (fun _ I41 J42 hI41 hJ42 => ?_)
              refine Fo.call (fr_X12_tell (Int32.toInt64 y37) I41 J42) (by decide) (by decide) hI41 hJ42 (fun _ I43 J44 hI43 hJ44 => ?_)
              refine Fo.call (fr_X12_tell (Int32.toInt64 y11) I43 J44) (by decide) (by decide) hI43 hJ44 (fun _ I45 J46 hI45 hJ46 => ?_)
              exact Fo.some hI45 hJ46
            · exact Fo.some hI38 hJ39
          · refine Fo.ite ?_ ?_
            · exact hj12 _
            · exact hj12 _
        · exact Fo.some hI6 hJ
    · exact Fo.some hI6 hJ
theorem fr_X12_faults  (I : HI) (J : HJ) : Fo wi_X12_faults wj_X12_faults I J (F_X12_faults  I J) := by
  suffices key : ∀ (I0 : HI) (J0 : HJ), Sm wi_X12_faults I0 I → Sm wj_X12_faults J0 J → Fo wi_X12_faults wj_X12_faults I0 J0 (F_X12_faults  I J) from key I J Sm.rf Sm.rf
  intro I0 J0 hI hJ
  unfold F_X12_faults
  refine Fo.lui rfl hI (fun I3 hI3 => ?_)
  refine Fo.lui rfl hI3 (fun I4 hI4 => ?_)
  refine Fo.callp (fun r5 => ?_)
  refine Fo.call (fr_X12_tell (Int32.toInt64 r5) I4 J) (by decide) (by decide) hI4 hJ (fun _ I6 J7 hI6 hJ7 => ?_)
  refine Fo.callp (fun r8 => ?_)
  refine Fo.call (fr_X12_tell (Int32.toInt64 r8) I6 J7) (by decide) (by decide) hI6 hJ7 (fun _ I9 J10 hI9 hJ10 => ?_)
  refine Fo.callp (fun r11 => ?_)
  exact Fo.some hI9 hJ10
theorem fr_X12_fault_ (l1 : Int32) (l2 : Int32) (I : HI) (J : HJ) : Fo wi_X12_fault_ wj_X12_fault_ I J (F_X12_fault_ l1 l2 I J) := by
  suffices key : ∀ (I0 : HI) (J0 : HJ), Sm wi_X12_fault_ I0 I → Sm wj_X12_fault_ J0 J → Fo wi_X12_fault_ wj_X12_fault_ I0 J0 (F_X12_fault_ l1 l2 I J) from key I J Sm.rf Sm.rf
  intro I0 J0 hI hJ
  unfold F_X12_fault_
  refine Fo.lui rfl hI (fun I2 hI2 => ?_)
  refine Fo.callp (fun r3 => ?_)
  refine Fo.jn (fun j => Fo wi_X12_fault_ wj_X12_fault_ I0 J0 (j)) ?_ (fun j4 hj4 => ?_)
  · refine Fo.call (fr_X12_lost I2 J) (by decide) (by decide) hI2 hJ (fun r5 I6 J7 hI6 hJ7 => ?_)
    exact Fo.some hI6 hJ7
  · refine Fo.ite ?_ ?_
    · exact hj4
    · refine Fo.callp (fun r8 => ?_)
      refine Fo.ite ?_ ?_
      · exact hj4
      · refine Fo.call (fr_X12_findFault l1 I2 J) (by decide) (by decide) hI2 hJ (fun _ I9 J10 hI9 hJ10 => ?_)
        refine Fo.ite ?_ ?_
        · refine Fo.callp (fun r11 => ?_)
          exact Fo.some hI9 hJ10
        · refine Fo.ite ?_ ?_
          · exact Fo.some hI9 hJ10
          · exact Fo.some hI9 hJ10
theorem fr_X12_would (l1 : Int32) (l2 : Int32) (l3 : Int32) (I : HI) (J : HJ) : Fo wi_X12_would wj_X12_would I J (F_X12_would l1 l2 l3 I J) := by
  suffices key : ∀ (I0 : HI) (J0 : HJ), Sm wi_X12_would I0 I → Sm wj_X12_would J0 J → Fo wi_X12_would wj_X12_would I0 J0 (F_X12_would l1 l2 l3 I J) from key I J Sm.rf Sm.rf
  intro I0 J0 hI hJ
  unfold F_X12_would
  refine Fo.lui rfl hI (fun I2 hI2 => ?_)
  refine Fo.callp (fun r3 => ?_)
  refine Fo.ite ?_ ?_
  · exact Fo.some hI2 hJ
  · refine Fo.callp (fun r4 => ?_)
    refine Fo.ite ?_ ?_
    · exact Fo.some hI2 hJ
    · refine Fo.call (fr_X12_glowingWith l1 l2 l3 I2 J) (by decide) (by decide) hI2 hJ (fun r5 I6 J7 hI6 hJ7 => ?_)
      exact Fo.some hI6 hJ7
theorem fr_X12_findGlow_113_L13 (I0 : HI) (J0 : HJ) (l3 : Int32) : ∀ (K : Nat) (l4 : Int32) (I : HI) (J : HJ) (hI : Sm wi_X12_findGlow_113 I0 I) (hJ : Sm wj_X12_findGlow_113 J0 J), Fo wi_X12_findGlow_113 wj_X12_findGlow_113 I0 J0 (F_X12_findGlow_113_L13 l3 K l4 I J) := by
  intro K
  induction K with
  | zero => intro l4 I J hI hJ; exact Fo.none
  | succ K ih =>
    intro l4 I J hI hJ
    rw [F_X12_findGlow_113_L13]
    refine Fo.ite ?_ ?_
    · exact Fo.some hI hJ
    · refine Fo.callp (fun r5 => ?_)
      refine Fo.callp (fun r6 => ?_)
      refine Fo.call (fr_X12_glowing r5 r6 I J) (by decide) (by decide) hI hJ (fun r7 I8 J9 hI8 hJ9 => ?_)
      refine Fo.gbx ?_
      refine Fo.luj rfl hJ9 (fun J10 hJ10 => ?_)
      exact ih _ _ _ hI8 hJ10
theorem fr_X12_findGlow_113 (l1 : Int32) (I : HI) (J : HJ) : Fo wi_X12_findGlow_113 wj_X12_findGlow_113 I J (F_X12_findGlow_113 l1 I J) := by
  suffices key : ∀ (I0 : HI) (J0 : HJ), Sm wi_X12_findGlow_113 I0 I → Sm wj_X12_findGlow_113 J0 J → Fo wi_X12_findGlow_113 wj_X12_findGlow_113 I0 J0 (F_X12_findGlow_113 l1 I J) from key I J Sm.rf Sm.rf
  intro I0 J0 hI hJ
  unfold F_X12_findGlow_113
  refine Fo.call (fr_X12_lay l1 I J) (by decide) (by decide) hI hJ (fun _ I2 J3 hI2 hJ3 => ?_)
  refine Fo.callp (fun r4 => ?_)
  refine fr_X12_findGlow_113_L13 _ _ _ bgf _ _ _ hI2 hJ3
theorem fr_X12_tells_L52 (I0 : HI) (J0 : HJ)  : ∀ (K : Nat) (l2 : Int32) (l3 : Int32) (I : HI) (J : HJ) (hI : Sm wi_X12_tells I0 I) (hJ : Sm wj_X12_tells J0 J), Fo wi_X12_tells wj_X12_tells I0 J0 (F_X12_tells_L52 K l2 l3 I J) := by
  intro K
  induction K with
  | zero => intro l2 l3 I J hI hJ; exact Fo.none
  | succ K ih =>
    intro l2 l3 I J hI hJ
    rw [F_X12_tells_L52]
    refine Fo.callp (fun r11 => ?_)
    refine Fo.ite ?_ ?_
    · exact Fo.some hI hJ
    · refine Fo.gbx ?_
      refine Fo.gbx ?_
      refine Fo.jn (fun j => ∀ (y12 : Int32) (I13 : HI) (J14 : HJ), Sm wi_X12_tells I0 I13 → Sm wj_X12_tells J0 J14 → Fo wi_X12_tells wj_X12_tells I0 J0 (j y12 I13 J14)) (fun y12 I13 J14 hI13 hJ14 => ?_) (fun j15 hj15 => ?_)
      · exact ih _ _ _ _ hI13 hJ14
      · refine Fo.ite ?_ ?_
        · exact hj15 _ _ _ hI hJ
        · refine Fo.jn (fun j => ∀ (I16 : HI) (J17 : HJ), Sm wi_X12_tells I0 I16 → Sm wj_X12_tells J0 J17 → Fo wi_X12_tells wj_X12_tells I0 J0 (j I16 J17)) (fun I16 J17 hI16 hJ17 => ?_) (fun j18 hj18 => ?_)
          · exact hj15 _ _ _ hI16 hJ17
          · refine Fo.ite ?_ ?_
            · refine Fo.call (fr_X12_tell (Int32.toInt64 l3) I J) (by decide) (by decide) hI hJ (fun _ I19 J20 hI19 hJ20 => ?_)
              exact hj18 _ _ hI19 hJ20
            · exact hj18 _ _ hI hJ
theorem fr_X12_tells (l1 : Int32) (I : HI) (J : HJ) : Fo wi_X12_tells wj_X12_tells I J (F_X12_tells l1 I J) := by
  suffices key : ∀ (I0 : HI) (J0 : HJ), Sm wi_X12_tells I0 I → Sm wj_X12_tells J0 J → Fo wi_X12_tells wj_X12_tells I0 J0 (F_X12_tells l1 I J) from key I J Sm.rf Sm.rf
  intro I0 J0 hI hJ
  unfold F_X12_tells
  refine Fo.lui rfl hI (fun I3 hI3 => ?_)
  refine Fo.callp (fun r4 => ?_)
  refine Fo.ite ?_ ?_
  · exact Fo.some hI3 hJ
  · refine Fo.callp (fun r5 => ?_)
    refine Fo.ite ?_ ?_
    · exact Fo.some hI3 hJ
    · refine Fo.call (fr_X12_findGlow_99 (0 : Int32) I3 J) (by decide) (by decide) hI3 hJ (fun _ I6 J7 hI6 hJ7 => ?_)
      refine Fo.call (fr_X12_findGlow_113 l1 I6 J7) (by decide) (by decide) hI6 hJ7 (fun _ I8 J9 hI8 hJ9 => ?_)
      refine Fo.lui rfl hI8 (fun I10 hI10 => ?_)
      refine fr_X12_tells_L52 _ _ bgf _ _ _ _ hI10 hJ9
theorem fr_X12_hidden_L33 (I0 : HI) (J0 : HJ)  : ∀ (K : Nat) (l1 : Int32) (l2 : Int32) (I : HI) (J : HJ) (hI : Sm wi_X12_hidden I0 I) (hJ : Sm wj_X12_hidden J0 J), Fo wi_X12_hidden wj_X12_hidden I0 J0 (F_X12_hidden_L33 K l1 l2 I J) := by
  intro K
  induction K with
  | zero => intro l1 l2 I J hI hJ; exact Fo.none
  | succ K ih =>
    intro l1 l2 I J hI hJ
    rw [F_X12_hidden_L33]
    refine Fo.callp (fun r8 => ?_)
    refine Fo.ite ?_ ?_
    · exact Fo.some hI hJ
    · refine Fo.call (fr_X12_findGlow_113 l2 I J) (by decide) (by decide) hI hJ (fun _ I9 J10 hI9 hJ10 => ?_)
      refine Fo.callp (fun r11 => ?_)
      refine Fo.jn (fun j => ∀ (y12 : Int32) (I13 : HI) (J14 : HJ), Sm wi_X12_hidden I0 I13 → Sm wj_X12_hidden J0 J14 → Fo wi_X12_hidden wj_X12_hidden I0 J0 (j y12 I13 J14)) (fun y12 I13 J14 hI13 hJ14 => ?_) (fun j15 hj15 => ?_)
      · exact ih _ _ _ _ hI13 hJ14
      · refine Fo.ite ?_ ?_
        · refine Fo.jn (fun j => ∀ (I16 : HI) (J17 : HJ), Sm wi_X12_hidden I0 I16 → Sm wj_X12_hidden J0 J17 → Fo wi_X12_hidden wj_X12_hidden I0 J0 (j I16 J17)) (fun I16 J17 hI16 hJ17 => ?_) (fun j18 hj18 => ?_)
          · exact hj15 _ _ _ hI16 hJ17
          · refine Fo.ite ?_ ?_
            · exact hj18 _ _ hI9 hJ10
            · refine Fo.call (fr_X12_tell (Int32.toInt64 l2) I9 J10) (by decide) (by decide) hI9 hJ10 (fun _ I19 J20 hI19 hJ20 => ?_)
              exact hj18 _ _ hI19 hJ20
        · exact hj15 _ _ _ hI9 hJ10
theorem fr_X12_hidden  (I : HI) (J : HJ) : Fo wi_X12_hidden wj_X12_hidden I J (F_X12_hidden  I J) := by
  suffices key : ∀ (I0 : HI) (J0 : HJ), Sm wi_X12_hidden I0 I → Sm wj_X12_hidden J0 J → Fo wi_X12_hidden wj_X12_hidden I0 J0 (F_X12_hidden  I J) from key I J Sm.rf Sm.rf
  intro I0 J0 hI hJ
  unfold F_X12_hidden
  refine Fo.lui rfl hI (fun I3 hI3 => ?_)
  refine Fo.callp (fun r4 => ?_)
  refine Fo.ite ?_ ?_
  · exact Fo.some hI3 hJ
  · refine Fo.call (fr_X12_findGlow_99 (0 : Int32) I3 J) (by decide) (by decide) hI3 hJ (fun _ I5 J6 hI5 hJ6 => ?_)
    refine Fo.lui rfl hI5 (fun I7 hI7 => ?_)
    refine fr_X12_hidden_L33 _ _ bgf _ _ _ _ hI7 hJ6
theorem fr_X12_alike (l1 : Int32) (l2 : Int32) (I : HI) (J : HJ) : Fo wi_X12_alike wj_X12_alike I J (F_X12_alike l1 l2 I J) := by
  suffices key : ∀ (I0 : HI) (J0 : HJ), Sm wi_X12_alike I0 I → Sm wj_X12_alike J0 J → Fo wi_X12_alike wj_X12_alike I0 J0 (F_X12_alike l1 l2 I J) from key I J Sm.rf Sm.rf
  intro I0 J0 hI hJ
  unfold F_X12_alike
  refine Fo.lui rfl hI (fun I3 hI3 => ?_)
  refine Fo.callp (fun r4 => ?_)
  refine Fo.ite ?_ ?_
  · exact Fo.some hI3 hJ
  · refine Fo.callp (fun r5 => ?_)
    refine Fo.ite ?_ ?_
    · exact Fo.some hI3 hJ
    · refine Fo.callp (fun r6 => ?_)
      refine Fo.ite ?_ ?_
      · exact Fo.some hI3 hJ
      · refine Fo.call (fr_X12_findGlow_99 l1 I3 J) (by decide) (by decide) hI3 hJ (fun _ I7 J8 hI7 hJ8 => ?_)
        refine Fo.call (fr_X12_findGlow_113 l2 I7 J8) (by decide) (by decide) hI7 hJ8 (fun _ I9 J10 hI9 hJ10 => ?_)
        refine Fo.callp (fun r11 => ?_)
        refine Fo.ite ?_ ?_
        · exact Fo.some hI9 hJ10
        · refine Fo.lui rfl hI9 (fun I12 hI12 => ?_)
          refine Fo.call (fr_X12_tell (Int32.toInt64 r11) I12 J10) (by decide) (by decide) hI12 hJ10 (fun _ I13 J14 hI13 hJ14 => ?_)
          exact Fo.some hI13 hJ14
theorem fr_X12_seen (l1 : Int32) (l2 : Int32) (l3 : Int64) (I : HI) (J : HJ) : Fo wi_X12_seen wj_X12_seen I J (F_X12_seen l1 l2 l3 I J) := by
  suffices key : ∀ (I0 : HI) (J0 : HJ), Sm wi_X12_seen I0 I → Sm wj_X12_seen J0 J → Fo wi_X12_seen wj_X12_seen I0 J0 (F_X12_seen l1 l2 l3 I J) from key I J Sm.rf Sm.rf
  intro I0 J0 hI hJ
  unfold F_X12_seen
  refine Fo.lui rfl hI (fun I6 hI6 => ?_)
  refine Fo.callp (fun r7 => ?_)
  refine Fo.ite ?_ ?_
  · exact Fo.some hI6 hJ
  · refine Fo.callp (fun r8 => ?_)
    refine Fo.ite ?_ ?_
    · exact Fo.some hI6 hJ
    · refine Fo.ite ?_ ?_
      · exact Fo.some hI6 hJ
      · refine Fo.gbx ?_
        refine Fo.lui rfl hI6 (fun I9 hI9 => ?_)
        refine Fo.gbx ?_
        refine Fo.lui rfl hI9 (fun I10 hI10 => ?_)
        refine Fo.gbx ?_
        refine Fo.luj rfl hJ (fun J11 hJ11 => ?_)
        refine Fo.lui rfl hI10 (fun I12 hI12 => ?_)
        exact Fo.some hI12 hJ11
theorem fr_X12_forget  (I : HI) (J : HJ) : Fo wi_X12_forget wj_X12_forget I J (F_X12_forget  I J) := by
  suffices key : ∀ (I0 : HI) (J0 : HJ), Sm wi_X12_forget I0 I → Sm wj_X12_forget J0 J → Fo wi_X12_forget wj_X12_forget I0 J0 (F_X12_forget  I J) from key I J Sm.rf Sm.rf
  intro I0 J0 hI hJ
  unfold F_X12_forget
  refine Fo.lui rfl hI (fun I3 hI3 => ?_)
  refine Fo.ite ?_ ?_
  · exact Fo.some hI3 hJ
  · refine Fo.lui rfl hI3 (fun I4 hI4 => ?_)
    exact Fo.some hI4 hJ
theorem fr_X12_bar_L7 (I0 : HI) (J0 : HJ)  : ∀ (K : Nat) (l2 : Int32) (I : HI) (J : HJ) (hI : Sm wi_X12_bar I0 I) (hJ : Sm wj_X12_bar J0 J), Fo wi_X12_bar wj_X12_bar I0 J0 (F_X12_bar_L7 K l2 I J) := by
  intro K
  induction K with
  | zero => intro l2 I J hI hJ; exact Fo.none
  | succ K ih =>
    intro l2 I J hI hJ
    rw [F_X12_bar_L7]
    refine Fo.ite ?_ ?_
    · exact Fo.some hI hJ
    · refine Fo.gbx ?_
      refine Fo.gbx ?_
      refine Fo.call (fr_X12_glowing (I m_seenHigh (Int32.toNatClampNeg l2)) (I m_seenLow (Int32.toNatClampNeg l2)) I J) (by decide) (by decide) hI hJ (fun r3 I4 J5 hI4 hJ5 => ?_)
      refine Fo.gbx ?_
      refine Fo.ite ?_ ?_
      · exact ih _ _ _ hI4 hJ5
      · exact Fo.some hI4 hJ5
theorem fr_X12_bar (l1 : Int32) (I : HI) (J : HJ) : Fo wi_X12_bar wj_X12_bar I J (F_X12_bar l1 I J) := by
  suffices key : ∀ (I0 : HI) (J0 : HJ), Sm wi_X12_bar I0 I → Sm wj_X12_bar J0 J → Fo wi_X12_bar wj_X12_bar I0 J0 (F_X12_bar l1 I J) from key I J Sm.rf Sm.rf
  intro I0 J0 hI hJ
  unfold F_X12_bar
  refine Fo.call (fr_X12_lay l1 I J) (by decide) (by decide) hI hJ (fun _ I1 J2 hI1 hJ2 => ?_)
  refine fr_X12_bar_L7 _ _ bgf _ _ _ hI1 hJ2
theorem fr_X12_findAgreed_L7 (I0 : HI) (J0 : HJ)  : ∀ (K : Nat) (l1 : Int32) (I : HI) (J : HJ) (hI : Sm wi_X12_findAgreed I0 I) (hJ : Sm wj_X12_findAgreed J0 J), Fo wi_X12_findAgreed wj_X12_findAgreed I0 J0 (F_X12_findAgreed_L7 K l1 I J) := by
  intro K
  induction K with
  | zero => intro l1 I J hI hJ; exact Fo.none
  | succ K ih =>
    intro l1 I J hI hJ
    rw [F_X12_findAgreed_L7]
    refine Fo.callp (fun r5 => ?_)
    refine Fo.ite ?_ ?_
    · exact Fo.some hI hJ
    · refine Fo.call (fr_X12_bar l1 I J) (by decide) (by decide) hI hJ (fun r6 I7 J8 hI7 hJ8 => ?_)
      refine Fo.jn (fun j => ∀ (I9 : HI), Sm wi_X12_findAgreed I0 I9 → Fo wi_X12_findAgreed wj_X12_findAgreed I0 J0 (j I9)) (fun I9 hI9 => ?_) (fun j10 hj10 => ?_)
      · exact ih _ _ _ hI9 hJ8
      · refine Fo.ite ?_ ?_
        · refine Fo.gbx ?_
          refine Fo.lui rfl hI7 (fun I11 hI11 => ?_)
          refine Fo.lui rfl hI11 (fun I12 hI12 => ?_)
          exact hj10 _ hI12
        · exact hj10 _ hI7
theorem fr_X12_findAgreed  (I : HI) (J : HJ) : Fo wi_X12_findAgreed wj_X12_findAgreed I J (F_X12_findAgreed  I J) := by
  suffices key : ∀ (I0 : HI) (J0 : HJ), Sm wi_X12_findAgreed I0 I → Sm wj_X12_findAgreed J0 J → Fo wi_X12_findAgreed wj_X12_findAgreed I0 J0 (F_X12_findAgreed  I J) from key I J Sm.rf Sm.rf
  intro I0 J0 hI hJ
  unfold F_X12_findAgreed
  refine Fo.lui rfl hI (fun I4 hI4 => ?_)
  refine fr_X12_findAgreed_L7 _ _ bgf _ _ _ hI4 hJ
theorem fr_X12_which_L16 (I0 : HI) (J0 : HJ) (kx47 : HI → HJ → Option (Int32 × HI × HJ)) (hkx47 : ∀ (I1 : HI) (J1 : HJ), Sm wi_X12_which I0 I1 → Sm wj_X12_which J0 J1 → Fo wi_X12_which wj_X12_which I0 J0 (kx47 I1 J1)) : ∀ (K : Nat) (l1 : Int32) (I : HI) (J : HJ) (hI : Sm wi_X12_which I0 I) (hJ : Sm wj_X12_which J0 J), Fo wi_X12_which wj_X12_which I0 J0 (F_X12_which_L16 kx47 K l1 I J) := by
  intro K
  induction K with
  | zero => intro l1 I J hI hJ; exact Fo.none
  | succ K ih =>
    intro l1 I J hI hJ
    rw [F_X12_which_L16]
    refine Fo.ite ?_ ?_
    · exact hkx47 _ _ hI hJ
    · refine Fo.ite ?_ ?_
      · exact hkx47 _ _ hI hJ
      · refine Fo.gbx ?_
        refine Fo.call (fr_X12_tell (Int32.toInt64 (I m_agreed (Int32.toNatClampNeg l1))) I J) (by decide) (by decide) hI hJ (fun _ I7 J8 hI7 hJ8 => ?_)
        exact ih _ _ _ hI7 hJ8
theorem fr_X12_which  (I : HI) (J : HJ) : Fo wi_X12_which wj_X12_which I J (F_X12_which  I J) := by
  suffices key : ∀ (I0 : HI) (J0 : HJ), Sm wi_X12_which I0 I → Sm wj_X12_which J0 J → Fo wi_X12_which wj_X12_which I0 J0 (F_X12_which  I J) from key I J Sm.rf Sm.rf
  intro I0 J0 hI hJ
  unfold F_X12_which
  refine Fo.lui rfl hI (fun I3 hI3 => ?_)
  refine Fo.call (fr_X12_findAgreed I3 J) (by decide) (by decide) hI3 hJ (fun _ I4 J5 hI4 hJ5 => ?_)
  refine Fo.lui rfl hI4 (fun I6 hI6 => ?_)
  refine fr_X12_which_L16 _ _ _ (fun I9 J10 hI9 hJ10 => ?_) bgf _ _ _ hI6 hJ5
  exact Fo.some hI9 hJ10
theorem fr_X12_judge (l1 : Int32) (I : HI) (J : HJ) : Fo wi_X12_judge wj_X12_judge I J (F_X12_judge l1 I J) := by
  suffices key : ∀ (I0 : HI) (J0 : HJ), Sm wi_X12_judge I0 I → Sm wj_X12_judge J0 J → Fo wi_X12_judge wj_X12_judge I0 J0 (F_X12_judge l1 I J) from key I J Sm.rf Sm.rf
  intro I0 J0 hI hJ
  unfold F_X12_judge
  refine Fo.lui rfl hI (fun I2 hI2 => ?_)
  refine Fo.callp (fun r3 => ?_)
  refine Fo.ite ?_ ?_
  · exact Fo.some hI2 hJ
  · refine Fo.call (fr_X12_bar l1 I2 J) (by decide) (by decide) hI2 hJ (fun r4 I5 J6 hI5 hJ6 => ?_)
    exact Fo.some hI5 hJ6
theorem fr_X12_next_L60 (I0 : HI) (J0 : HJ) (l1 : Int32) (l2 : Int32) (I : HI) (kx88 : HJ → Option (Int32 × HI × HJ)) (hI : Sm wi_X12_next I0 I) (hkx88 : ∀ (J1 : HJ), Sm wj_X12_next J0 J1 → Fo wi_X12_next wj_X12_next I0 J0 (kx88 J1)) : ∀ (K : Nat) (l3 : Int32) (J : HJ) (hJ : Sm wj_X12_next J0 J), Fo wi_X12_next wj_X12_next I0 J0 (F_X12_next_L60 l1 l2 I kx88 K l3 J) := by
  intro K
  induction K with
  | zero => intro l3 J hJ; exact Fo.none
  | succ K ih =>
    intro l3 J hJ
    rw [F_X12_next_L60]
    refine Fo.ite ?_ ?_
    · exact hkx88 _ hJ
    · refine Fo.gbx ?_
      refine Fo.gbx ?_
      refine Fo.luj rfl hJ (fun J13 hJ13 => ?_)
      exact ih _ _ hJ13
theorem fr_X12_next_L36 (I0 : HI) (J0 : HJ) (l1 : Int32) (kx94 : HI → HJ → Option (Int32 × HI × HJ)) (hkx94 : ∀ (I1 : HI) (J1 : HJ), Sm wi_X12_next I0 I1 → Sm wj_X12_next J0 J1 → Fo wi_X12_next wj_X12_next I0 J0 (kx94 I1 J1)) : ∀ (K : Nat) (l2 : Int32) (I : HI) (J : HJ) (hI : Sm wi_X12_next I0 I) (hJ : Sm wj_X12_next J0 J), Fo wi_X12_next wj_X12_next I0 J0 (F_X12_next_L36 l1 kx94 K l2 I J) := by
  intro K
  induction K with
  | zero => intro l2 I J hI hJ; exact Fo.none
  | succ K ih =>
    intro l2 I J hI hJ
    rw [F_X12_next_L36]
    refine Fo.ite ?_ ?_
    · exact hkx94 _ _ hI hJ
    · refine Fo.gbx ?_
      refine Fo.call (fr_X12_findGlow_99 (I m_agreed (Int32.toNatClampNeg l2)) I J) (by decide) (by decide) hI hJ (fun _ I11 J12 hI11 hJ12 => ?_)
      refine fr_X12_next_L60 _ _ _ _ _ _ hI11 (fun J14 hJ14 => ?_) bgf _ _ hJ12
      exact ih _ _ _ hI11 hJ14
theorem fr_X12_next_L128 (I0 : HI) (J0 : HJ) (l1 : Int32) (l2 : Int32) (l3 : Int32) (l4 : Int32) (l5 : Int32) (l6 : Int32) (I : HI) (J : HJ) (kx183 : Int32 → Option (Int32 × HI × HJ)) (hI : Sm wi_X12_next I0 I) (hJ : Sm wj_X12_next J0 J) (hkx183 : ∀ (y7 : Int32), Fo wi_X12_next wj_X12_next I0 J0 (kx183 y7)) : ∀ (K : Nat) (l7 : Int32) (l8 : Int32), Fo wi_X12_next wj_X12_next I0 J0 (F_X12_next_L128 l1 l2 l3 l4 l5 l6 I J kx183 K l7 l8) := by
  intro K
  induction K with
  | zero => intro l7 l8; exact Fo.none
  | succ K ih =>
    intro l7 l8
    rw [F_X12_next_L128]
    refine Fo.ite ?_ ?_
    · exact hkx183 _
    · refine Fo.gbx ?_
      refine Fo.gbx ?_
      refine Fo.jn (fun j => ∀ (y17 : Int32) (y18 : Int32), Fo wi_X12_next wj_X12_next I0 J0 (j y17 y18)) (fun y17 y18 => ?_) (fun j19 hj19 => ?_)
      · refine Fo.lbv (fun x20 => ?_)
        exact ih _ _
      · refine Fo.ite ?_ ?_
        · exact hj19 _ _
        · exact hj19 _ _
theorem fr_X12_next_L113 (I0 : HI) (J0 : HJ) (l1 : Int32) (l2 : Int32) (l3 : Int32) (l4 : Int32) (I : HI) (J : HJ) (kx198 : Int32 → Option (Int32 × HI × HJ)) (hI : Sm wi_X12_next I0 I) (hJ : Sm wj_X12_next J0 J) (hkx198 : ∀ (y5 : Int32), Fo wi_X12_next wj_X12_next I0 J0 (kx198 y5)) : ∀ (K : Nat) (l5 : Int32) (l6 : Int32), Fo wi_X12_next wj_X12_next I0 J0 (F_X12_next_L113 l1 l2 l3 l4 I J kx198 K l5 l6) := by
  intro K
  induction K with
  | zero => intro l5 l6; exact Fo.none
  | succ K ih =>
    intro l5 l6
    rw [F_X12_next_L113]
    refine Fo.ite ?_ ?_
    · exact hkx198 _
    · refine fr_X12_next_L128 _ _ _ _ _ _ _ _ _ _ _ hI hJ (fun y21 => ?_) bgf _ _
      refine Fo.lbv (fun x22 => ?_)
      exact ih _ _
theorem fr_X12_next_L101 (I0 : HI) (J0 : HJ) (l1 : Int32) (I : HI) (J : HJ) (kx224 : Int32 → Int32 → Option (Int32 × HI × HJ)) (hI : Sm wi_X12_next I0 I) (hJ : Sm wj_X12_next J0 J) (hkx224 : ∀ (y2 : Int32) (y3 : Int32), Fo wi_X12_next wj_X12_next I0 J0 (kx224 y2 y3)) : ∀ (K : Nat) (l2 : Int32) (l3 : Int32) (l4 : Int32), Fo wi_X12_next wj_X12_next I0 J0 (F_X12_next_L101 l1 I J kx224 K l2 l3 l4) := by
  intro K
  induction K with
  | zero => intro l2 l3 l4; exact Fo.none
  | succ K ih =>
    intro l2 l3 l4
    rw [F_X12_next_L101]
    refine Fo.ite ?_ ?_
    · exact hkx224 _ _
    · refine fr_X12_next_L113 _ _ _ _ _ _ _ _ _ hI hJ (fun y23 => ?_) bgf _ _
      refine Fo.jn (fun j => ∀ (y24 : Int32) (y25 : Int32), Fo wi_X12_next wj_X12_next I0 J0 (j y24 y25)) (fun y24 y25 => ?_) (fun j26 hj26 => ?_)
      · exact ih _ _ _
      · refine Fo.jn (fun j => Fo wi_X12_next wj_X12_next I0 J0 (j)) ?_ (fun j27 hj27 => ?_)
        · exact hj26 _ _
        · refine Fo.ite ?_ ?_
          · exact hj27
          · refine Fo.ite ?_ ?_
            · exact hj27
            · exact hj26 _ _
theorem fr_X12_next  (I : HI) (J : HJ) : Fo wi_X12_next wj_X12_next I J (F_X12_next  I J) := by
  suffices key : ∀ (I0 : HI) (J0 : HJ), Sm wi_X12_next I0 I → Sm wj_X12_next J0 J → Fo wi_X12_next wj_X12_next I0 J0 (F_X12_next  I J) from key I J Sm.rf Sm.rf
  intro I0 J0 hI hJ
  unfold F_X12_next
  refine Fo.lui rfl hI (fun I6 hI6 => ?_)
  refine Fo.callp (fun r7 => ?_)
  refine Fo.ite ?_ ?_
  · exact Fo.some hI6 hJ
  · refine Fo.call (fr_X12_findAgreed I6 J) (by decide) (by decide) hI6 hJ (fun _ I8 J9 hI8 hJ9 => ?_)
    refine Fo.ite ?_ ?_
    · exact Fo.some hI8 hJ9
    · refine Fo.callp (fun r10 => ?_)
      refine fr_X12_next_L36 _ _ _ _ (fun I15 J16 hI15 hJ16 => ?_) bgf _ _ _ hI8 hJ9
      refine fr_X12_next_L101 _ _ _ _ _ _ hI15 hJ16 (fun y28 y29 => ?_) bgf _ _ _
      refine Fo.lui rfl hI15 (fun I30 hI30 => ?_)
      refine Fo.call (fr_X12_tell (Int32.toInt64 y28) I30 J16) (by decide) (by decide) hI30 hJ16 (fun _ I31 J32 hI31 hJ32 => ?_)
      exact Fo.some hI31 hJ32
theorem fr_X12_test (l1 : Int32) (l2 : Int32) (I : HI) (J : HJ) : Fo wi_X12_test wj_X12_test I J (F_X12_test l1 l2 I J) := by
  suffices key : ∀ (I0 : HI) (J0 : HJ), Sm wi_X12_test I0 I → Sm wj_X12_test J0 J → Fo wi_X12_test wj_X12_test I0 J0 (F_X12_test l1 l2 I J) from key I J Sm.rf Sm.rf
  intro I0 J0 hI hJ
  unfold F_X12_test
  refine Fo.lui rfl hI (fun I5 hI5 => ?_)
  refine Fo.callp (fun r6 => ?_)
  refine Fo.ite ?_ ?_
  · exact Fo.some hI5 hJ
  · refine Fo.ite ?_ ?_
    · exact Fo.some hI5 hJ
    · refine Fo.gbx ?_
      refine Fo.lui rfl hI5 (fun I7 hI7 => ?_)
      refine Fo.gbx ?_
      refine Fo.lui rfl hI7 (fun I8 hI8 => ?_)
      refine Fo.lui rfl hI8 (fun I9 hI9 => ?_)
      exact Fo.some hI9 hJ
theorem fr_X12_findAnswers_L26 (I0 : HI) (J0 : HJ) (l1 : Int32) (kx67 : HI → HJ → Option (Unit × HI × HJ)) (hkx67 : ∀ (I1 : HI) (J1 : HJ), Sm wi_X12_findAnswers I0 I1 → Sm wj_X12_findAnswers J0 J1 → Fo wi_X12_findAnswers wj_X12_findAnswers I0 J0 (kx67 I1 J1)) : ∀ (K : Nat) (l2 : Int32) (I : HI) (J : HJ) (hI : Sm wi_X12_findAnswers I0 I) (hJ : Sm wj_X12_findAnswers J0 J), Fo wi_X12_findAnswers wj_X12_findAnswers I0 J0 (F_X12_findAnswers_L26 l1 kx67 K l2 I J) := by
  intro K
  induction K with
  | zero => intro l2 I J hI hJ; exact Fo.none
  | succ K ih =>
    intro l2 I J hI hJ
    rw [F_X12_findAnswers_L26]
    refine Fo.ite ?_ ?_
    · exact hkx67 _ _ hI hJ
    · refine Fo.gbx ?_
      refine Fo.gbx ?_
      refine Fo.call (fr_X12_glowing (I m_testHigh (Int32.toNatClampNeg l2)) (I m_testLow (Int32.toNatClampNeg l2)) I J) (by decide) (by decide) hI hJ (fun r8 I9 J10 hI9 hJ10 => ?_)
      refine Fo.gbx ?_
      refine Fo.luj rfl hJ10 (fun J11 hJ11 => ?_)
      exact ih _ _ _ hI9 hJ11
theorem fr_X12_findAnswers_L6 (I0 : HI) (J0 : HJ) (kx73 : HI → HJ → Option (Unit × HI × HJ)) (hkx73 : ∀ (I1 : HI) (J1 : HJ), Sm wi_X12_findAnswers I0 I1 → Sm wj_X12_findAnswers J0 J1 → Fo wi_X12_findAnswers wj_X12_findAnswers I0 J0 (kx73 I1 J1)) : ∀ (K : Nat) (l1 : Int32) (I : HI) (J : HJ) (hI : Sm wi_X12_findAnswers I0 I) (hJ : Sm wj_X12_findAnswers J0 J), Fo wi_X12_findAnswers wj_X12_findAnswers I0 J0 (F_X12_findAnswers_L6 kx73 K l1 I J) := by
  intro K
  induction K with
  | zero => intro l1 I J hI hJ; exact Fo.none
  | succ K ih =>
    intro l1 I J hI hJ
    rw [F_X12_findAnswers_L6]
    refine Fo.ite ?_ ?_
    · exact hkx73 _ _ hI hJ
    · refine Fo.gbx ?_
      refine Fo.call (fr_X12_lay (I m_agreed (Int32.toNatClampNeg l1)) I J) (by decide) (by decide) hI hJ (fun _ I6 J7 hI6 hJ7 => ?_)
      refine fr_X12_findAnswers_L26 _ _ _ _ (fun I12 J13 hI12 hJ13 => ?_) bgf _ _ _ hI6 hJ7
      exact ih _ _ _ hI12 hJ13
theorem fr_X12_findAnswers_L75 (I0 : HI) (J0 : HJ) (J : HJ) (kx97 : HI → Option (Unit × HI × HJ)) (hJ : Sm wj_X12_findAnswers J0 J) (hkx97 : ∀ (I1 : HI), Sm wi_X12_findAnswers I0 I1 → Fo wi_X12_findAnswers wj_X12_findAnswers I0 J0 (kx97 I1)) : ∀ (K : Nat) (l1 : Int32) (I : HI) (hI : Sm wi_X12_findAnswers I0 I), Fo wi_X12_findAnswers wj_X12_findAnswers I0 J0 (F_X12_findAnswers_L75 J kx97 K l1 I) := by
  intro K
  induction K with
  | zero => intro l1 I hI; exact Fo.none
  | succ K ih =>
    intro l1 I hI
    rw [F_X12_findAnswers_L75]
    refine Fo.ite ?_ ?_
    · exact hkx97 _ hI
    · refine Fo.gbx ?_
      refine Fo.lui rfl hI (fun I16 hI16 => ?_)
      exact ih _ _ hI16
theorem fr_X12_findAnswers_L135 (I0 : HI) (J0 : HJ) (l1 : Int32) (l2 : Int32) (l3 : Int32) (I : HI) (J : HJ) (kx196 : Int32 → Option (Unit × HI × HJ)) (hI : Sm wi_X12_findAnswers I0 I) (hJ : Sm wj_X12_findAnswers J0 J) (hkx196 : ∀ (y4 : Int32), Fo wi_X12_findAnswers wj_X12_findAnswers I0 J0 (kx196 y4)) : ∀ (K : Nat) (l4 : Int32), Fo wi_X12_findAnswers wj_X12_findAnswers I0 J0 (F_X12_findAnswers_L135 l1 l2 l3 I J kx196 K l4) := by
  intro K
  induction K with
  | zero => intro l4; exact Fo.none
  | succ K ih =>
    intro l4
    rw [F_X12_findAnswers_L135]
    refine Fo.ite ?_ ?_
    · exact hkx196 _
    · refine Fo.callp (fun r20 => ?_)
      refine Fo.callp (fun r21 => ?_)
      refine Fo.jn (fun j => Fo wi_X12_findAnswers wj_X12_findAnswers I0 J0 (j)) ?_ (fun j22 hj22 => ?_)
      · exact ih _
      · refine Fo.ite ?_ ?_
        · refine Fo.gbx ?_
          refine Fo.gbx ?_
          refine Fo.ite ?_ ?_
          · exact hkx196 _
          · exact hj22
        · exact hj22
theorem fr_X12_findAnswers_L124 (I0 : HI) (J0 : HJ) (l1 : Int32) (l2 : Int32) (J : HJ) (kx215 : HI → Option (Unit × HI × HJ)) (hJ : Sm wj_X12_findAnswers J0 J) (hkx215 : ∀ (I1 : HI), Sm wi_X12_findAnswers I0 I1 → Fo wi_X12_findAnswers wj_X12_findAnswers I0 J0 (kx215 I1)) : ∀ (K : Nat) (l3 : Int32) (I : HI) (hI : Sm wi_X12_findAnswers I0 I), Fo wi_X12_findAnswers wj_X12_findAnswers I0 J0 (F_X12_findAnswers_L124 l1 l2 J kx215 K l3 I) := by
  intro K
  induction K with
  | zero => intro l3 I hI; exact Fo.none
  | succ K ih =>
    intro l3 I hI
    rw [F_X12_findAnswers_L124]
    refine Fo.ite ?_ ?_
    · exact hkx215 _ hI
    · refine fr_X12_findAnswers_L135 _ _ _ _ _ _ _ _ hI hJ (fun y23 => ?_) bgf _
      refine Fo.gbx ?_
      refine Fo.lui rfl hI (fun I24 hI24 => ?_)
      exact ih _ _ hI24
theorem fr_X12_findAnswers_L99 (I0 : HI) (J0 : HJ) (J : HJ) (hJ : Sm wj_X12_findAnswers J0 J) : ∀ (K : Nat) (l1 : Int32) (I : HI) (hI : Sm wi_X12_findAnswers I0 I), Fo wi_X12_findAnswers wj_X12_findAnswers I0 J0 (F_X12_findAnswers_L99 J K l1 I) := by
  intro K
  induction K with
  | zero => intro l1 I hI; exact Fo.none
  | succ K ih =>
    intro l1 I hI
    rw [F_X12_findAnswers_L99]
    refine Fo.ite ?_ ?_
    · exact Fo.some hI hJ
    · refine Fo.jn (fun j => ∀ (y18 : Int32), Fo wi_X12_findAnswers wj_X12_findAnswers I0 J0 (j y18)) (fun y18 => ?_) (fun j19 hj19 => ?_)
      · refine fr_X12_findAnswers_L124 _ _ _ _ _ _ hJ (fun I25 hI25 => ?_) bgf _ _ hI
        exact ih _ _ hI25
      · refine Fo.ite ?_ ?_
        · exact hj19 _
        · refine Fo.callp (fun r26 => ?_)
          exact hj19 _
theorem fr_X12_findAnswers  (I : HI) (J : HJ) : Fo wi_X12_findAnswers wj_X12_findAnswers I J (F_X12_findAnswers  I J) := by
  suffices key : ∀ (I0 : HI) (J0 : HJ), Sm wi_X12_findAnswers I0 I → Sm wj_X12_findAnswers J0 J → Fo wi_X12_findAnswers wj_X12_findAnswers I0 J0 (F_X12_findAnswers  I J) from key I J Sm.rf Sm.rf
  intro I0 J0 hI hJ
  unfold F_X12_findAnswers
  refine Fo.call (fr_X12_findAgreed I J) (by decide) (by decide) hI hJ (fun _ I4 J5 hI4 hJ5 => ?_)
  refine fr_X12_findAnswers_L6 _ _ _ (fun I14 J15 hI14 hJ15 => ?_) bgf _ _ _ hI4 hJ5
  refine fr_X12_findAnswers_L75 _ _ _ _ hJ15 (fun I17 hI17 => ?_) bgf _ _ hI14
  refine fr_X12_findAnswers_L99 _ _ _ hJ15 bgf _ _ hI17
theorem fr_X12_depthBy_L13 (rc : Int32 → Int32 → HI → HJ → Option (Int32 × HI × HJ)) (hrc : ∀ (a0 : Int32) (a1 : Int32) (I : HI) (J : HJ), Fo wi_X12_depthOf wj_X12_depthOf I J (rc a0 a1 I J)) (I0 : HI) (J0 : HJ) (l2 : Int32) (l3 : Int32) (l5 : Int32) (kx67 : Int32 → HI → HJ → Option (Int32 × HI × HJ)) (hkx67 : ∀ (y4 : Int32) (I1 : HI) (J1 : HJ), Sm wi_X12_depthBy I0 I1 → Sm wj_X12_depthBy J0 J1 → Fo wi_X12_depthBy wj_X12_depthBy I0 J0 (kx67 y4 I1 J1)) : ∀ (K : Nat) (l4 : Int32) (l6 : Int32) (I : HI) (J : HJ) (hI : Sm wi_X12_depthBy I0 I) (hJ : Sm wj_X12_depthBy J0 J), Fo wi_X12_depthBy wj_X12_depthBy I0 J0 (F_X12_depthBy_L13 rc l2 l3 l5 kx67 K l4 l6 I J) := by
  intro K
  induction K with
  | zero => intro l4 l6 I J hI hJ; exact Fo.none
  | succ K ih =>
    intro l4 l6 I J hI hJ
    rw [F_X12_depthBy_L13]
    refine Fo.ite ?_ ?_
    · exact hkx67 _ _ _ hI hJ
    · refine Fo.callp (fun r4 => ?_)
      refine Fo.jn (fun j => ∀ (y5 : Int32) (I6 : HI) (J7 : HJ), Sm wi_X12_depthBy I0 I6 → Sm wj_X12_depthBy J0 J7 → Fo wi_X12_depthBy wj_X12_depthBy I0 J0 (j y5 I6 J7)) (fun y5 I6 J7 hI6 hJ7 => ?_) (fun j8 hj8 => ?_)
      · exact ih _ _ _ _ hI6 hJ7
      · refine Fo.ite ?_ ?_
        · exact hj8 _ _ _ hI hJ
        · refine Fo.callp (fun r9 => ?_)
          refine Fo.ite ?_ ?_
          · refine Fo.call (hrc l5 l6 I J) (by decide) (by decide) hI hJ (fun r10 I11 J12 hI11 hJ12 => ?_)
            refine Fo.lbv (fun x13 => ?_)
            exact hj8 _ _ _ hI11 hJ12
          · exact hj8 _ _ _ hI hJ
theorem fr_X12_depthBy (rc : Int32 → Int32 → HI → HJ → Option (Int32 × HI × HJ)) (hrc : ∀ (a0 : Int32) (a1 : Int32) (I : HI) (J : HJ), Fo wi_X12_depthOf wj_X12_depthOf I J (rc a0 a1 I J)) (l1 : Int32) (l2 : Int32) (l3 : Int32) (I : HI) (J : HJ) : Fo wi_X12_depthBy wj_X12_depthBy I J (F_X12_depthBy rc l1 l2 l3 I J) := by
  suffices key : ∀ (I0 : HI) (J0 : HJ), Sm wi_X12_depthBy I0 I → Sm wj_X12_depthBy J0 J → Fo wi_X12_depthBy wj_X12_depthBy I0 J0 (F_X12_depthBy rc l1 l2 l3 I J) from key I J Sm.rf Sm.rf
  intro I0 J0 hI hJ
  unfold F_X12_depthBy
  refine Fo.lbv (fun x3 => ?_)
  refine fr_X12_depthBy_L13 rc hrc _ _ _ _ _ _ (fun y14 I15 J16 hI15 hJ16 => ?_) bgf _ _ _ _ hI hJ
  exact Fo.some hI15 hJ16
theorem fr_X12_depthOf_L32 (rc : Int32 → Int32 → HI → HJ → Option (Int32 × HI × HJ)) (hrc : ∀ (a0 : Int32) (a1 : Int32) (I : HI) (J : HJ), Fo wi_X12_depthOf wj_X12_depthOf I J (rc a0 a1 I J)) (I0 : HI) (J0 : HJ) (l1 : Int32) (l2 : Int32) (l3 : Int32) (kx86 : Int32 → HI → HJ → Option (Int32 × HI × HJ)) (hkx86 : ∀ (y4 : Int32) (I1 : HI) (J1 : HJ), Sm wi_X12_depthOf I0 I1 → Sm wj_X12_depthOf J0 J1 → Fo wi_X12_depthOf wj_X12_depthOf I0 J0 (kx86 y4 I1 J1)) : ∀ (K : Nat) (l4 : Int32) (l5 : Int32) (I : HI) (J : HJ) (hI : Sm wi_X12_depthOf I0 I) (hJ : Sm wj_X12_depthOf J0 J), Fo wi_X12_depthOf wj_X12_depthOf I0 J0 (F_X12_depthOf_L32 rc l1 l2 l3 kx86 K l4 l5 I J) := by
  intro K
  induction K with
  | zero => intro l4 l5 I J hI hJ; exact Fo.none
  | succ K ih =>
    intro l4 l5 I J hI hJ
    rw [F_X12_depthOf_L32]
    refine Fo.ite ?_ ?_
    · exact hkx86 _ _ _ hI hJ
    · refine Fo.callp (fun r5 => ?_)
      refine Fo.jn (fun j => ∀ (y6 : Int32) (I7 : HI) (J8 : HJ), Sm wi_X12_depthOf I0 I7 → Sm wj_X12_depthOf J0 J8 → Fo wi_X12_depthOf wj_X12_depthOf I0 J0 (j y6 I7 J8)) (fun y6 I7 J8 hI7 hJ8 => ?_) (fun j9 hj9 => ?_)
      · exact ih _ _ _ _ hI7 hJ8
      · refine Fo.ite ?_ ?_
        · refine Fo.callp (fun r10 => ?_)
          refine Fo.ite ?_ ?_
          · exact hj9 _ _ _ hI hJ
          · refine Fo.call (fr_X12_depthBy rc hrc l5 l1 l2 I J) (by decide) (by decide) hI hJ (fun r11 I12 J13 hI12 hJ13 => ?_)
            refine Fo.lbv (fun x14 => ?_)
            exact hj9 _ _ _ hI12 hJ13
        · exact hj9 _ _ _ hI hJ
theorem fr_X12_depthOf_B (rc : Int32 → Int32 → HI → HJ → Option (Int32 × HI × HJ)) (hrc : ∀ (a0 : Int32) (a1 : Int32) (I : HI) (J : HJ), Fo wi_X12_depthOf wj_X12_depthOf I J (rc a0 a1 I J)) (l1 : Int32) (l2 : Int32) (I : HI) (J : HJ) : Fo wi_X12_depthOf wj_X12_depthOf I J (F_X12_depthOf_B rc l1 l2 I J) := by
  suffices key : ∀ (I0 : HI) (J0 : HJ), Sm wi_X12_depthOf I0 I → Sm wj_X12_depthOf J0 J → Fo wi_X12_depthOf wj_X12_depthOf I0 J0 (F_X12_depthOf_B rc l1 l2 I J) from key I J Sm.rf Sm.rf
  intro I0 J0 hI hJ
  unfold F_X12_depthOf_B
  refine Fo.lbv (fun x4 => ?_)
  refine Fo.gbx ?_
  refine Fo.ite ?_ ?_
  · refine fr_X12_depthOf_L32 rc hrc _ _ _ _ _ _ (fun y15 I16 J17 hI16 hJ17 => ?_) bgf _ _ _ _ hI hJ
    refine Fo.jn (fun j => ∀ (y18 : Int32) (y19 : Int32), Fo wi_X12_depthOf wj_X12_depthOf I0 J0 (j y18 y19)) (fun y18 y19 => ?_) (fun j20 hj20 => ?_)
    · refine Fo.gbx ?_
      refine Fo.lui rfl hI16 (fun I21 hI21 => ?_)
      refine Fo.gbx ?_
      exact Fo.some hI21 hJ17
    · refine Fo.ite ?_ ?_
      · exact hj20 _ _
      · exact hj20 _ _
  · refine Fo.gbx ?_
    exact Fo.some hI hJ
theorem fr_X12_depthOf : ∀ (n : Nat) (l1 : Int32) (l2 : Int32) (I : HI) (J : HJ), Fo wi_X12_depthOf wj_X12_depthOf I J (F_X12_depthOf n l1 l2 I J) := by
  intro n
  induction n with
  | zero => intro l1 l2 I J; exact Fo.none
  | succ n ih => intro l1 l2 I J; exact fr_X12_depthOf_B (F_X12_depthOf n) ih l1 l2 I J
theorem fr_X12_firstTest_L16 (I0 : HI) (J0 : HJ) (l1 : Int32) (l2 : Int32) (l3 : Int32) : ∀ (K : Nat) (l4 : Int32) (I : HI) (J : HJ) (hI : Sm wi_X12_firstTest I0 I) (hJ : Sm wj_X12_firstTest J0 J), Fo wi_X12_firstTest wj_X12_firstTest I0 J0 (F_X12_firstTest_L16 l1 l2 l3 K l4 I J) := by
  intro K
  induction K with
  | zero => intro l4 I J hI hJ; exact Fo.none
  | succ K ih =>
    intro l4 I J hI hJ
    rw [F_X12_firstTest_L16]
    refine Fo.callp (fun r4 => ?_)
    refine Fo.jn (fun j => ∀ (I5 : HI) (J6 : HJ), Sm wi_X12_firstTest I0 I5 → Sm wj_X12_firstTest J0 J6 → Fo wi_X12_firstTest wj_X12_firstTest I0 J0 (j I5 J6)) (fun I5 J6 hI5 hJ6 => ?_) (fun j7 hj7 => ?_)
    · exact ih _ _ _ hI5 hJ6
    · refine Fo.ite ?_ ?_
      · refine Fo.callp (fun r8 => ?_)
        refine Fo.ite ?_ ?_
        · exact hj7 _ _ hI hJ
        · refine Fo.call (fr_X12_depthBy (F_X12_depthOf 20) (fr_X12_depthOf 20) l4 l1 l2 I J) (by decide) (by decide) hI hJ (fun r9 I10 J11 hI10 hJ11 => ?_)
          refine Fo.ite ?_ ?_
          · exact Fo.some hI10 hJ11
          · exact hj7 _ _ hI10 hJ11
      · exact hj7 _ _ hI hJ
theorem fr_X12_firstTest (l1 : Int32) (l2 : Int32) (I : HI) (J : HJ) : Fo wi_X12_firstTest wj_X12_firstTest I J (F_X12_firstTest l1 l2 I J) := by
  suffices key : ∀ (I0 : HI) (J0 : HJ), Sm wi_X12_firstTest I0 I → Sm wj_X12_firstTest J0 J → Fo wi_X12_firstTest wj_X12_firstTest I0 J0 (F_X12_firstTest l1 l2 I J) from key I J Sm.rf Sm.rf
  intro I0 J0 hI hJ
  unfold F_X12_firstTest
  refine Fo.call (fr_X12_depthOf 20 l1 l2 I J) (by decide) (by decide) hI hJ (fun r1 I2 J3 hI2 hJ3 => ?_)
  refine Fo.ite ?_ ?_
  · exact Fo.some hI2 hJ3
  · refine fr_X12_firstTest_L16 _ _ _ _ _ bgf _ _ _ hI2 hJ3
theorem fr_X12_tree_L32 (I0 : HI) (J0 : HJ) (l1 : Int32) (I : HI) (J : HJ) (kx64 : Int32 → Option (Int32 × HI × HJ)) (hI : Sm wi_X12_tree I0 I) (hJ : Sm wj_X12_tree J0 J) (hkx64 : ∀ (y2 : Int32), Fo wi_X12_tree wj_X12_tree I0 J0 (kx64 y2)) : ∀ (K : Nat) (l2 : Int32) (l3 : Int32), Fo wi_X12_tree wj_X12_tree I0 J0 (F_X12_tree_L32 l1 I J kx64 K l2 l3) := by
  intro K
  induction K with
  | zero => intro l2 l3; exact Fo.none
  | succ K ih =>
    intro l2 l3
    rw [F_X12_tree_L32]
    refine Fo.ite ?_ ?_
    · exact hkx64 _
    · refine Fo.callp (fun r9 => ?_)
      refine Fo.jn (fun j => ∀ (y10 : Int32) (y11 : Int32), Fo wi_X12_tree wj_X12_tree I0 J0 (j y10 y11)) (fun y10 y11 => ?_) (fun j12 hj12 => ?_)
      · refine Fo.lbv (fun x13 => ?_)
        exact ih _ _
      · refine Fo.ite ?_ ?_
        · exact hj12 _ _
        · exact hj12 _ _
theorem fr_X12_tree  (I : HI) (J : HJ) : Fo wi_X12_tree wj_X12_tree I J (F_X12_tree  I J) := by
  suffices key : ∀ (I0 : HI) (J0 : HJ), Sm wi_X12_tree I0 I → Sm wj_X12_tree J0 J → Fo wi_X12_tree wj_X12_tree I0 J0 (F_X12_tree  I J) from key I J Sm.rf Sm.rf
  intro I0 J0 hI hJ
  unfold F_X12_tree
  refine Fo.lui rfl hI (fun I5 hI5 => ?_)
  refine Fo.call (fr_X12_findAnswers I5 J) (by decide) (by decide) hI5 hJ (fun _ I6 J7 hI6 hJ7 => ?_)
  refine Fo.ite ?_ ?_
  · exact Fo.some hI6 hJ7
  · refine Fo.lbv (fun x8 => ?_)
    refine fr_X12_tree_L32 _ _ _ _ _ _ hI6 hJ7 (fun y14 => ?_) bgf _ _
    refine Fo.call (fr_X12_depthOf 20 (0 : Int32) (0 : Int32) I6 J7) (by decide) (by decide) hI6 hJ7 (fun r15 I16 J17 hI16 hJ17 => ?_)
    refine Fo.call (fr_X12_firstTest (0 : Int32) (0 : Int32) I16 J17) (by decide) (by decide) hI16 hJ17 (fun r18 I19 J20 hI19 hJ20 => ?_)
    refine Fo.lui rfl hI19 (fun I21 hI21 => ?_)
    refine Fo.call (fr_X12_tell (Int32.toInt64 r18) I21 J20) (by decide) (by decide) hI21 hJ20 (fun _ I22 J23 hI22 hJ23 => ?_)
    refine Fo.call (fr_X12_tell (Int32.toInt64 y14) I22 J23) (by decide) (by decide) hI22 hJ23 (fun _ I24 J25 hI24 hJ25 => ?_)
    exact Fo.some hI24 hJ25
theorem fr_X12_path_L31 (I0 : HI) (J0 : HJ) (l1 : Int32) (I : HI) (J : HJ) (kx47 : Int32 → Option (Int32 × HI × HJ)) (hI : Sm wi_X12_path I0 I) (hJ : Sm wj_X12_path J0 J) (hkx47 : ∀ (y2 : Int32), Fo wi_X12_path wj_X12_path I0 J0 (kx47 y2)) : ∀ (K : Nat) (l2 : Int32), Fo wi_X12_path wj_X12_path I0 J0 (F_X12_path_L31 l1 I J kx47 K l2) := by
  intro K
  induction K with
  | zero => intro l2; exact Fo.none
  | succ K ih =>
    intro l2
    rw [F_X12_path_L31]
    refine Fo.gbx ?_
    refine Fo.ite ?_ ?_
    · exact hkx47 _
    · exact ih _
theorem fr_X12_path_L65 (I0 : HI) (J0 : HJ) (l2 : Int32) (kx104 : Int32 → Int32 → HI → HJ → Option (Int32 × HI × HJ)) (hkx104 : ∀ (y3 : Int32) (y4 : Int32) (I1 : HI) (J1 : HJ), Sm wi_X12_path I0 I1 → Sm wj_X12_path J0 J1 → Fo wi_X12_path wj_X12_path I0 J0 (kx104 y3 y4 I1 J1)) : ∀ (K : Nat) (l3 : Int32) (l4 : Int32) (l5 : Int32) (I : HI) (J : HJ) (hI : Sm wi_X12_path I0 I) (hJ : Sm wj_X12_path J0 J), Fo wi_X12_path wj_X12_path I0 J0 (F_X12_path_L65 l2 kx104 K l3 l4 l5 I J) := by
  intro K
  induction K with
  | zero => intro l3 l4 l5 I J hI hJ; exact Fo.none
  | succ K ih =>
    intro l3 l4 l5 I J hI hJ
    rw [F_X12_path_L65]
    refine Fo.ite ?_ ?_
    · exact hkx104 _ _ _ _ hI hJ
    · refine Fo.call (fr_X12_tell (Int32.toInt64 l5) I J) (by decide) (by decide) hI hJ (fun _ I17 J18 hI17 hJ18 => ?_)
      refine Fo.lbv (fun x19 => ?_)
      refine Fo.callp (fun r20 => ?_)
      refine Fo.call (fr_X12_firstTest x19 r20 I17 J18) (by decide) (by decide) hI17 hJ18 (fun r21 I22 J23 hI22 hJ23 => ?_)
      exact ih _ _ _ _ _ hI22 hJ23
theorem fr_X12_path_L110 (I0 : HI) (J0 : HJ) (l2 : Int32) (l3 : Int32) (l4 : Int32) (I : HI) (J : HJ) (kx146 : Int32 → Option (Int32 × HI × HJ)) (hI : Sm wi_X12_path I0 I) (hJ : Sm wj_X12_path J0 J) (hkx146 : ∀ (y6 : Int32), Fo wi_X12_path wj_X12_path I0 J0 (kx146 y6)) : ∀ (K : Nat) (l6 : Int32) (l7 : Int32), Fo wi_X12_path wj_X12_path I0 J0 (F_X12_path_L110 l2 l3 l4 I J kx146 K l6 l7) := by
  intro K
  induction K with
  | zero => intro l6 l7; exact Fo.none
  | succ K ih =>
    intro l6 l7
    rw [F_X12_path_L110]
    refine Fo.ite ?_ ?_
    · exact hkx146 _
    · refine Fo.callp (fun r28 => ?_)
      refine Fo.jn (fun j => ∀ (y29 : Int32) (y30 : Int32), Fo wi_X12_path wj_X12_path I0 J0 (j y29 y30)) (fun y29 y30 => ?_) (fun j31 hj31 => ?_)
      · refine Fo.lbv (fun x32 => ?_)
        exact ih _ _
      · refine Fo.ite ?_ ?_
        · exact hj31 _ _
        · exact hj31 _ _
theorem fr_X12_path (l1 : Int32) (I : HI) (J : HJ) : Fo wi_X12_path wj_X12_path I J (F_X12_path l1 I J) := by
  suffices key : ∀ (I0 : HI) (J0 : HJ), Sm wi_X12_path I0 I → Sm wj_X12_path J0 J → Fo wi_X12_path wj_X12_path I0 J0 (F_X12_path l1 I J) from key I J Sm.rf Sm.rf
  intro I0 J0 hI hJ
  unfold F_X12_path
  refine Fo.lui rfl hI (fun I5 hI5 => ?_)
  refine Fo.callp (fun r6 => ?_)
  refine Fo.ite ?_ ?_
  · exact Fo.some hI5 hJ
  · refine Fo.call (fr_X12_bar l1 I5 J) (by decide) (by decide) hI5 hJ (fun r7 I8 J9 hI8 hJ9 => ?_)
    refine Fo.ite ?_ ?_
    · refine Fo.call (fr_X12_findAnswers I8 J9) (by decide) (by decide) hI8 hJ9 (fun _ I10 J11 hI10 hJ11 => ?_)
      refine fr_X12_path_L31 _ _ _ _ _ _ hI10 hJ11 (fun y12 => ?_) bgf _
      refine Fo.lui rfl hI10 (fun I13 hI13 => ?_)
      refine Fo.call (fr_X12_firstTest (0 : Int32) (0 : Int32) I13 J11) (by decide) (by decide) hI13 hJ11 (fun r14 I15 J16 hI15 hJ16 => ?_)
      refine fr_X12_path_L65 _ _ _ _ (fun y24 y25 I26 J27 hI26 hJ27 => ?_) bgf _ _ _ _ _ hI15 hJ16
      refine fr_X12_path_L110 _ _ _ _ _ _ _ _ hI26 hJ27 (fun y33 => ?_) bgf _ _
      refine Fo.call (fr_X12_tell (Int32.toInt64 y33) I26 J27) (by decide) (by decide) hI26 hJ27 (fun _ I34 J35 hI34 hJ35 => ?_)
      exact Fo.some hI34 hJ35
    · exact Fo.some hI8 hJ9
theorem fr_X12_keep_L42 (I0 : HI) (J0 : HJ) (l1 : Int32) (l2 : Int32) (J : HJ) (kx106 : HI → Option (Int32 × HI × HJ)) (hJ : Sm wj_X12_keep J0 J) (hkx106 : ∀ (I1 : HI), Sm wi_X12_keep I0 I1 → Fo wi_X12_keep wj_X12_keep I0 J0 (kx106 I1)) : ∀ (K : Nat) (l3 : Int32) (I : HI) (hI : Sm wi_X12_keep I0 I), Fo wi_X12_keep wj_X12_keep I0 J0 (F_X12_keep_L42 l1 l2 J kx106 K l3 I) := by
  intro K
  induction K with
  | zero => intro l3 I hI; exact Fo.none
  | succ K ih =>
    intro l3 I hI
    rw [F_X12_keep_L42]
    refine Fo.ite ?_ ?_
    · exact hkx106 _ hI
    · refine Fo.gbx ?_
      refine Fo.gbx ?_
      refine Fo.lui rfl hI (fun I21 hI21 => ?_)
      refine Fo.gbx ?_
      refine Fo.gbx ?_
      refine Fo.lui rfl hI21 (fun I22 hI22 => ?_)
      refine Fo.gbx ?_
      refine Fo.gbx ?_
      refine Fo.lui rfl hI22 (fun I23 hI23 => ?_)
      exact ih _ _ hI23
theorem fr_X12_keep_L160 (I0 : HI) (J0 : HJ) (l1 : Int32) (l2 : Int32) (kx227 : HI → HJ → Option (Int32 × HI × HJ)) (hkx227 : ∀ (I1 : HI) (J1 : HJ), Sm wi_X12_keep I0 I1 → Sm wj_X12_keep J0 J1 → Fo wi_X12_keep wj_X12_keep I0 J0 (kx227 I1 J1)) : ∀ (K : Nat) (l3 : Int32) (I : HI) (J : HJ) (hI : Sm wi_X12_keep I0 I) (hJ : Sm wj_X12_keep J0 J), Fo wi_X12_keep wj_X12_keep I0 J0 (F_X12_keep_L160 l1 l2 kx227 K l3 I J) := by
  intro K
  induction K with
  | zero => intro l3 I J hI hJ; exact Fo.none
  | succ K ih =>
    intro l3 I J hI hJ
    rw [F_X12_keep_L160]
    refine Fo.ite ?_ ?_
    · exact hkx227 _ _ hI hJ
    · refine Fo.gbx ?_
      refine Fo.gbx ?_
      refine Fo.lui rfl hI (fun I29 hI29 => ?_)
      refine Fo.gbx ?_
      refine Fo.gbx ?_
      refine Fo.lui rfl hI29 (fun I30 hI30 => ?_)
      refine Fo.gbx ?_
      refine Fo.gbx ?_
      refine Fo.luj rfl hJ (fun J31 hJ31 => ?_)
      exact ih _ _ _ hI30 hJ31
theorem fr_X12_keep_L229 (I0 : HI) (J0 : HJ) (l1 : Int32) (I : HI) (hI : Sm wi_X12_keep I0 I) : ∀ (K : Nat) (l3 : Int32) (J : HJ) (hJ : Sm wj_X12_keep J0 J), Fo wi_X12_keep wj_X12_keep I0 J0 (F_X12_keep_L229 l1 I K l3 J) := by
  intro K
  induction K with
  | zero => intro l3 J hJ; exact Fo.none
  | succ K ih =>
    intro l3 J hJ
    rw [F_X12_keep_L229]
    refine Fo.ite ?_ ?_
    · exact Fo.some hI hJ
    · refine Fo.gbx ?_
      refine Fo.gbx ?_
      refine Fo.luj rfl hJ (fun J34 hJ34 => ?_)
      exact ih _ _ hJ34
theorem fr_X12_keep (l1 : Int32) (I : HI) (J : HJ) : Fo wi_X12_keep wj_X12_keep I J (F_X12_keep l1 I J) := by
  suffices key : ∀ (I0 : HI) (J0 : HJ), Sm wi_X12_keep I0 I → Sm wj_X12_keep J0 J → Fo wi_X12_keep wj_X12_keep I0 J0 (F_X12_keep l1 I J) from key I J Sm.rf Sm.rf
  intro I0 J0 hI hJ
  unfold F_X12_keep
  refine Fo.lui rfl hI (fun I16 hI16 => ?_)
  refine Fo.callp (fun r17 => ?_)
  refine Fo.ite ?_ ?_
  · exact Fo.some hI16 hJ
  · refine Fo.gbx ?_
    refine Fo.lui rfl hI16 (fun I18 hI18 => ?_)
    refine Fo.gbx ?_
    refine Fo.lui rfl hI18 (fun I19 hI19 => ?_)
    refine Fo.lbv (fun x20 => ?_)
    refine fr_X12_keep_L42 _ _ _ _ _ _ hJ (fun I24 hI24 => ?_) bgf _ _ hI19
    refine Fo.gbx ?_
    refine Fo.lui rfl hI24 (fun I25 hI25 => ?_)
    refine Fo.gbx ?_
    refine Fo.lui rfl hI25 (fun I26 hI26 => ?_)
    refine Fo.gbx ?_
    refine Fo.lui rfl hI26 (fun I27 hI27 => ?_)
    refine Fo.gbx ?_
    refine Fo.lui rfl hI27 (fun I28 hI28 => ?_)
    refine fr_X12_keep_L160 _ _ _ _ _ (fun I32 J33 hI32 hJ33 => ?_) bgf _ _ _ hI28 hJ
    refine fr_X12_keep_L229 _ _ _ _ hI32 bgf _ _ hJ33
theorem fr_X12_again_L47 (I0 : HI) (J0 : HJ) (l1 : Int32) (l2 : Int32) (J : HJ) (kx111 : HI → Option (Int32 × HI × HJ)) (hJ : Sm wj_X12_again J0 J) (hkx111 : ∀ (I1 : HI), Sm wi_X12_again I0 I1 → Fo wi_X12_again wj_X12_again I0 J0 (kx111 I1)) : ∀ (K : Nat) (l3 : Int32) (I : HI) (hI : Sm wi_X12_again I0 I), Fo wi_X12_again wj_X12_again I0 J0 (F_X12_again_L47 l1 l2 J kx111 K l3 I) := by
  intro K
  induction K with
  | zero => intro l3 I hI; exact Fo.none
  | succ K ih =>
    intro l3 I hI
    rw [F_X12_again_L47]
    refine Fo.ite ?_ ?_
    · exact hkx111 _ hI
    · refine Fo.gbx ?_
      refine Fo.gbx ?_
      refine Fo.lui rfl hI (fun I17 hI17 => ?_)
      refine Fo.gbx ?_
      refine Fo.gbx ?_
      refine Fo.lui rfl hI17 (fun I18 hI18 => ?_)
      refine Fo.gbx ?_
      refine Fo.gbx ?_
      refine Fo.lui rfl hI18 (fun I19 hI19 => ?_)
      exact ih _ _ hI19
theorem fr_X12_again_L165 (I0 : HI) (J0 : HJ) (l1 : Int32) (l2 : Int32) (kx232 : HI → HJ → Option (Int32 × HI × HJ)) (hkx232 : ∀ (I1 : HI) (J1 : HJ), Sm wi_X12_again I0 I1 → Sm wj_X12_again J0 J1 → Fo wi_X12_again wj_X12_again I0 J0 (kx232 I1 J1)) : ∀ (K : Nat) (l3 : Int32) (I : HI) (J : HJ) (hI : Sm wi_X12_again I0 I) (hJ : Sm wj_X12_again J0 J), Fo wi_X12_again wj_X12_again I0 J0 (F_X12_again_L165 l1 l2 kx232 K l3 I J) := by
  intro K
  induction K with
  | zero => intro l3 I J hI hJ; exact Fo.none
  | succ K ih =>
    intro l3 I J hI hJ
    rw [F_X12_again_L165]
    refine Fo.ite ?_ ?_
    · exact hkx232 _ _ hI hJ
    · refine Fo.gbx ?_
      refine Fo.gbx ?_
      refine Fo.lui rfl hI (fun I25 hI25 => ?_)
      refine Fo.gbx ?_
      refine Fo.gbx ?_
      refine Fo.lui rfl hI25 (fun I26 hI26 => ?_)
      refine Fo.gbx ?_
      refine Fo.gbx ?_
      refine Fo.luj rfl hJ (fun J27 hJ27 => ?_)
      exact ih _ _ _ hI26 hJ27
theorem fr_X12_again_L234 (I0 : HI) (J0 : HJ) (l1 : Int32) (I : HI) (hI : Sm wi_X12_again I0 I) : ∀ (K : Nat) (l3 : Int32) (J : HJ) (hJ : Sm wj_X12_again J0 J), Fo wi_X12_again wj_X12_again I0 J0 (F_X12_again_L234 l1 I K l3 J) := by
  intro K
  induction K with
  | zero => intro l3 J hJ; exact Fo.none
  | succ K ih =>
    intro l3 J hJ
    rw [F_X12_again_L234]
    refine Fo.ite ?_ ?_
    · exact Fo.some hI hJ
    · refine Fo.gbx ?_
      refine Fo.gbx ?_
      refine Fo.luj rfl hJ (fun J30 hJ30 => ?_)
      exact ih _ _ hJ30
theorem fr_X12_again (l1 : Int32) (I : HI) (J : HJ) : Fo wi_X12_again wj_X12_again I J (F_X12_again l1 I J) := by
  suffices key : ∀ (I0 : HI) (J0 : HJ), Sm wi_X12_again I0 I → Sm wj_X12_again J0 J → Fo wi_X12_again wj_X12_again I0 J0 (F_X12_again l1 I J) from key I J Sm.rf Sm.rf
  intro I0 J0 hI hJ
  unfold F_X12_again
  refine Fo.lui rfl hI (fun I14 hI14 => ?_)
  refine Fo.callp (fun r15 => ?_)
  refine Fo.ite ?_ ?_
  · exact Fo.some hI14 hJ
  · refine Fo.gbx ?_
    refine Fo.ite ?_ ?_
    · exact Fo.some hI14 hJ
    · refine Fo.gbx ?_
      refine Fo.ite ?_ ?_
      · refine Fo.lbv (fun x16 => ?_)
        refine fr_X12_again_L47 _ _ _ _ _ _ hJ (fun I20 hI20 => ?_) bgf _ _ hI14
        refine Fo.gbx ?_
        refine Fo.lui rfl hI20 (fun I21 hI21 => ?_)
        refine Fo.gbx ?_
        refine Fo.lui rfl hI21 (fun I22 hI22 => ?_)
        refine Fo.gbx ?_
        refine Fo.lui rfl hI22 (fun I23 hI23 => ?_)
        refine Fo.gbx ?_
        refine Fo.lui rfl hI23 (fun I24 hI24 => ?_)
        refine fr_X12_again_L165 _ _ _ _ _ (fun I28 J29 hI28 hJ29 => ?_) bgf _ _ _ hI24 hJ
        refine fr_X12_again_L234 _ _ _ _ hI28 bgf _ _ hJ29
      · exact Fo.some hI14 hJ
theorem fr_X12_count (l1 : Int32) (I : HI) (J : HJ) : Fo wi_X12_count wj_X12_count I J (F_X12_count l1 I J) := by
  suffices key : ∀ (I0 : HI) (J0 : HJ), Sm wi_X12_count I0 I → Sm wj_X12_count J0 J → Fo wi_X12_count wj_X12_count I0 J0 (F_X12_count l1 I J) from key I J Sm.rf Sm.rf
  intro I0 J0 hI hJ
  unfold F_X12_count
  refine Fo.lui rfl hI (fun I2 hI2 => ?_)
  refine Fo.ite ?_ ?_
  · exact Fo.some hI2 hJ
  refine Fo.ite ?_ ?_
  · exact Fo.some hI2 hJ
  refine Fo.ite ?_ ?_
  · refine Fo.gbx ?_
    exact Fo.some hI2 hJ
  refine Fo.ite ?_ ?_
  · exact Fo.some hI2 hJ
  refine Fo.ite ?_ ?_
  · exact Fo.some hI2 hJ
  refine Fo.ite ?_ ?_
  · exact Fo.some hI2 hJ
  refine Fo.ite ?_ ?_
  · exact Fo.some hI2 hJ
  refine Fo.ite ?_ ?_
  · exact Fo.some hI2 hJ
  refine Fo.ite ?_ ?_
  · exact Fo.some hI2 hJ
  · exact Fo.some hI2 hJ
theorem fr_X12_row (l1 : Int32) (I : HI) (J : HJ) : Fo wi_X12_row wj_X12_row I J (F_X12_row l1 I J) := by
  suffices key : ∀ (I0 : HI) (J0 : HJ), Sm wi_X12_row I0 I → Sm wj_X12_row J0 J → Fo wi_X12_row wj_X12_row I0 J0 (F_X12_row l1 I J) from key I J Sm.rf Sm.rf
  intro I0 J0 hI hJ
  unfold F_X12_row
  refine Fo.lui rfl hI (fun I2 hI2 => ?_)
  refine Fo.callp (fun r3 => ?_)
  refine Fo.ite ?_ ?_
  · refine Fo.call (fr_X12_lost I2 J) (by decide) (by decide) hI2 hJ (fun r4 I5 J6 hI5 hJ6 => ?_)
    exact Fo.some hI5 hJ6
  · refine Fo.gbx ?_
    exact Fo.some hI2 hJ

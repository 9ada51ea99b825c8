/-! ===== the law: links, models ===== -/
abbrev M_L_answer : Mk := (yL_answer, cL_answer, 4, (some .int), [((0 : Nat), (9 : Nat), (12 : Nat), (18 : Nat))])
abbrev M_L_balance : Mk := (yL_balance, cL_balance, 4, (some .int), [((0 : Nat), (8 : Nat), (11 : Nat), (13 : Nat))])
abbrev M_L_bridge : Mk := (yL_bridge, cL_bridge, 6, (some .int), [((0 : Nat), (12 : Nat), (15 : Nat), (13 : Nat))])
abbrev M_L_bridges : Mk := (yL_bridges, cL_bridges, 5, (some .int), [((0 : Nat), (10 : Nat), (13 : Nat), (13 : Nat))])
abbrev M_L_cell : Mk := (yL_cell, cL_cell, 4, (some .int), [((0 : Nat), (9 : Nat), (12 : Nat), (18 : Nat))])
abbrev M_L_chain : Mk := (yL_chain, cL_chain, 5, (some .int), [((0 : Nat), (10 : Nat), (13 : Nat), (18 : Nat)), ((0 : Nat), (10 : Nat), (17 : Nat), (13 : Nat))])
abbrev M_L_chains : Mk := (yL_chains, cL_chains, 4, (some .int), [((0 : Nat), (9 : Nat), (12 : Nat), (13 : Nat))])
abbrev M_L_current : Mk := (yL_current, cL_current, 5, (some .int), [((0 : Nat), (10 : Nat), (13 : Nat), (13 : Nat))])
abbrev M_L_distance : Mk := (yL_distance, cL_distance, 4, (some .int), [((0 : Nat), (9 : Nat), (12 : Nat), (13 : Nat))])
abbrev M_L_filled : Mk := (yL_filled, cL_filled, 4, (some .int), [((0 : Nat), (9 : Nat), (12 : Nat), (13 : Nat))])
abbrev M_L_fillings : Mk := (yL_fillings, cL_fillings, 6, (some .int), [((0 : Nat), (12 : Nat), (15 : Nat), (13 : Nat))])
abbrev M_L_group : Mk := (yL_group, cL_group, 5, (some .int), [((0 : Nat), (10 : Nat), (13 : Nat), (18 : Nat)), ((0 : Nat), (10 : Nat), (17 : Nat), (13 : Nat))])
abbrev M_L_groups : Mk := (yL_groups, cL_groups, 4, (some .int), [((0 : Nat), (9 : Nat), (12 : Nat), (13 : Nat))])
abbrev M_L_idle : Mk := (yL_idle, cL_idle, 4, (some .int), [((0 : Nat), (9 : Nat), (12 : Nat), (13 : Nat))])
abbrev M_L_isBridge : Mk := (yL_isBridge, cL_isBridge, 5, (some .int), [((0 : Nat), (17 : Nat), (20 : Nat), (18 : Nat))])
abbrev M_L_isSafe : Mk := (yL_isSafe, cL_isSafe, 4, (some .int), [((0 : Nat), (16 : Nat), (19 : Nat), (13 : Nat))])
abbrev M_L_largest : Mk := (yL_largest, cL_largest, 4, (some .int), [((0 : Nat), (9 : Nat), (12 : Nat), (13 : Nat))])
abbrev M_L_law : Mk := (yL_law, cL_law, 10, some .boolean, [])
abbrev M_L_move : Mk := (yL_move, cL_move, 4, (some .int), [((0 : Nat), (9 : Nat), (12 : Nat), (18 : Nat))])
abbrev M_L_neighbour : Mk := (yL_neighbour, cL_neighbour, 5, (some .int), [((0 : Nat), (10 : Nat), (13 : Nat), (18 : Nat))])
abbrev M_L_playForced : Mk := (yL_playForced, cL_playForced, 4, (some .int), [((0 : Nat), (9 : Nat), (12 : Nat), (13 : Nat))])
abbrev M_L_potential : Mk := (yL_potential, cL_potential, 6, (some .int), [((0 : Nat), (12 : Nat), (15 : Nat), (13 : Nat)), ((0 : Nat), (12 : Nat), (19 : Nat), (18 : Nat))])
abbrev M_L_put : Mk := (yL_put, cL_put, 5, (some .int), [((0 : Nat), (10 : Nat), (13 : Nat), (18 : Nat)), ((0 : Nat), (10 : Nat), (17 : Nat), (13 : Nat))])
abbrev M_L_resistance : Mk := (yL_resistance, cL_resistance, 5, (some .int), [((0 : Nat), (10 : Nat), (13 : Nat), (13 : Nat))])
abbrev M_L_restoreSnapshot : Mk := (yL_restoreSnapshot, cL_restoreSnapshot, 4, (some .int), [((0 : Nat), (9 : Nat), (12 : Nat), (13 : Nat))])
abbrev M_L_saveSnapshot : Mk := (yL_saveSnapshot, cL_saveSnapshot, 4, (some .int), [((0 : Nat), (9 : Nat), (12 : Nat), (13 : Nat))])
abbrev M_L_setTurn : Mk := (yL_setTurn, cL_setTurn, 4, (some .int), [((0 : Nat), (9 : Nat), (12 : Nat), (13 : Nat))])
abbrev M_L_size : Mk := (yL_size, cL_size, 4, (some .int), [((0 : Nat), (9 : Nat), (12 : Nat), (13 : Nat))])
abbrev M_L_threat : Mk := (yL_threat, cL_threat, 5, (some .int), [((0 : Nat), (10 : Nat), (13 : Nat), (13 : Nat))])
abbrev M_L_threats : Mk := (yL_threats, cL_threats, 4, (some .int), [((0 : Nat), (9 : Nat), (12 : Nat), (13 : Nat))])
abbrev M_L_through : Mk := (yL_through, cL_through, 5, (some .int), [((0 : Nat), (10 : Nat), (13 : Nat), (13 : Nat)), ((0 : Nat), (10 : Nat), (17 : Nat), (18 : Nat))])
abbrev M_L_useful : Mk := (yL_useful, cL_useful, 4, (some .int), [((0 : Nat), (9 : Nat), (12 : Nat), (13 : Nat))])
abbrev M_L_writeCell : Mk := (yL_writeCell, cL_writeCell, 4, (some .int), [((0 : Nat), (9 : Nat), (12 : Nat), (18 : Nat))])
abbrev M_L_writeRow : Mk := (yL_writeRow, cL_writeRow, 4, (some .int), [((0 : Nat), (9 : Nat), (12 : Nat), (18 : Nat))])
theorem lk0_L_answer : LK0H M_L_answer 3 := ⟨(lw_all_mem (List.mem_append_right _ (List.mem_of_getElem? (i := 0) (by decide +kernel))) (by decide +kernel)), (lw_all_mem (List.mem_append_right _ (List.mem_of_getElem? (i := 1082) (by decide +kernel))) (by decide +kernel)), ⟨by decide +kernel, by decide +kernel, by decide +kernel⟩, by decide +kernel⟩
theorem lk0_L_balance : LK0H M_L_balance 3 := ⟨(lw_all_mem (List.mem_append_right _ (List.mem_of_getElem? (i := 0) (by decide +kernel))) (by decide +kernel)), (lw_all_mem (List.mem_append_right _ (List.mem_of_getElem? (i := 1177) (by decide +kernel))) (by decide +kernel)), ⟨by decide +kernel, by decide +kernel, by decide +kernel⟩, by decide +kernel⟩
theorem lk0_L_bridge : LK0H M_L_bridge 5 := ⟨(lw_all_mem (List.mem_append_right _ (List.mem_of_getElem? (i := 0) (by decide +kernel))) (by decide +kernel)), (lw_all_mem (List.mem_append_right _ (List.mem_of_getElem? (i := 1027) (by decide +kernel))) (by decide +kernel)), ⟨by decide +kernel, by decide +kernel, by decide +kernel⟩, by decide +kernel⟩
theorem lk0_L_bridges : LK0H M_L_bridges 4 := ⟨(lw_all_mem (List.mem_append_right _ (List.mem_of_getElem? (i := 0) (by decide +kernel))) (by decide +kernel)), (lw_all_mem (List.mem_append_right _ (List.mem_of_getElem? (i := 1016) (by decide +kernel))) (by decide +kernel)), ⟨by decide +kernel, by decide +kernel, by decide +kernel⟩, by decide +kernel⟩
theorem lk0_L_cell : LK0H M_L_cell 3 := ⟨(lw_all_mem (List.mem_append_right _ (List.mem_of_getElem? (i := 0) (by decide +kernel))) (by decide +kernel)), (lw_all_mem (List.mem_append_right _ (List.mem_of_getElem? (i := 917) (by decide +kernel))) (by decide +kernel)), ⟨by decide +kernel, by decide +kernel, by decide +kernel⟩, by decide +kernel⟩
theorem lk0_L_chain : LK0H M_L_chain 4 := ⟨(lw_all_mem (List.mem_append_right _ (List.mem_of_getElem? (i := 0) (by decide +kernel))) (by decide +kernel)), (lw_all_mem (List.mem_append_right _ (List.mem_of_getElem? (i := 1038) (by decide +kernel))) (by decide +kernel)), ⟨by decide +kernel, by decide +kernel, by decide +kernel⟩, by decide +kernel⟩
theorem lk0_L_chains : LK0H M_L_chains 3 := ⟨(lw_all_mem (List.mem_append_right _ (List.mem_of_getElem? (i := 0) (by decide +kernel))) (by decide +kernel)), (lw_all_mem (List.mem_append_right _ (List.mem_of_getElem? (i := 1068) (by decide +kernel))) (by decide +kernel)), ⟨by decide +kernel, by decide +kernel, by decide +kernel⟩, by decide +kernel⟩
theorem lk0_L_current : LK0H M_L_current 4 := ⟨(lw_all_mem (List.mem_append_right _ (List.mem_of_getElem? (i := 0) (by decide +kernel))) (by decide +kernel)), (lw_all_mem (List.mem_append_right _ (List.mem_of_getElem? (i := 1162) (by decide +kernel))) (by decide +kernel)), ⟨by decide +kernel, by decide +kernel, by decide +kernel⟩, by decide +kernel⟩
theorem lk0_L_distance : LK0H M_L_distance 3 := ⟨(lw_all_mem (List.mem_append_right _ (List.mem_of_getElem? (i := 0) (by decide +kernel))) (by decide +kernel)), (lw_all_mem (List.mem_append_right _ (List.mem_of_getElem? (i := 1103) (by decide +kernel))) (by decide +kernel)), ⟨by decide +kernel, by decide +kernel, by decide +kernel⟩, by decide +kernel⟩
theorem lk0_L_filled : LK0H M_L_filled 3 := ⟨(lw_all_mem (List.mem_append_right _ (List.mem_of_getElem? (i := 0) (by decide +kernel))) (by decide +kernel)), (lw_all_mem (List.mem_append_right _ (List.mem_of_getElem? (i := 1185) (by decide +kernel))) (by decide +kernel)), ⟨by decide +kernel, by decide +kernel, by decide +kernel⟩, by decide +kernel⟩
theorem lk0_L_fillings : LK0H M_L_fillings 5 := ⟨(lw_all_mem (List.mem_append_right _ (List.mem_of_getElem? (i := 0) (by decide +kernel))) (by decide +kernel)), (lw_all_mem (List.mem_append_right _ (List.mem_of_getElem? (i := 1212) (by decide +kernel))) (by decide +kernel)), ⟨by decide +kernel, by decide +kernel, by decide +kernel⟩, by decide +kernel⟩
theorem lk0_L_group : LK0H M_L_group 4 := ⟨(lw_all_mem (List.mem_append_right _ (List.mem_of_getElem? (i := 0) (by decide +kernel))) (by decide +kernel)), (lw_all_mem (List.mem_append_right _ (List.mem_of_getElem? (i := 953) (by decide +kernel))) (by decide +kernel)), ⟨by decide +kernel, by decide +kernel, by decide +kernel⟩, by decide +kernel⟩
theorem lk0_L_groups : LK0H M_L_groups 3 := ⟨(lw_all_mem (List.mem_append_right _ (List.mem_of_getElem? (i := 0) (by decide +kernel))) (by decide +kernel)), (lw_all_mem (List.mem_append_right _ (List.mem_of_getElem? (i := 977) (by decide +kernel))) (by decide +kernel)), ⟨by decide +kernel, by decide +kernel, by decide +kernel⟩, by decide +kernel⟩
theorem lk0_L_idle : LK0H M_L_idle 3 := ⟨(lw_all_mem (List.mem_append_right _ (List.mem_of_getElem? (i := 0) (by decide +kernel))) (by decide +kernel)), (lw_all_mem (List.mem_append_right _ (List.mem_of_getElem? (i := 1219) (by decide +kernel))) (by decide +kernel)), ⟨by decide +kernel, by decide +kernel, by decide +kernel⟩, by decide +kernel⟩
theorem lk0_L_isBridge : LK0H M_L_isBridge 4 := ⟨(lw_all_mem (List.mem_append_right _ (List.mem_of_getElem? (i := 0) (by decide +kernel))) (by decide +kernel)), (lw_all_mem (List.mem_append_right _ (List.mem_of_getElem? (i := 1003) (by decide +kernel))) (by decide +kernel)), ⟨by decide +kernel, by decide +kernel, by decide +kernel⟩, by decide +kernel⟩
theorem lk0_L_isSafe : LK0H M_L_isSafe 3 := ⟨(lw_all_mem (List.mem_append_right _ (List.mem_of_getElem? (i := 0) (by decide +kernel))) (by decide +kernel)), (lw_all_mem (List.mem_append_right _ (List.mem_of_getElem? (i := 1075) (by decide +kernel))) (by decide +kernel)), ⟨by decide +kernel, by decide +kernel, by decide +kernel⟩, by decide +kernel⟩
theorem lk0_L_largest : LK0H M_L_largest 3 := ⟨(lw_all_mem (List.mem_append_right _ (List.mem_of_getElem? (i := 0) (by decide +kernel))) (by decide +kernel)), (lw_all_mem (List.mem_append_right _ (List.mem_of_getElem? (i := 992) (by decide +kernel))) (by decide +kernel)), ⟨by decide +kernel, by decide +kernel, by decide +kernel⟩, by decide +kernel⟩
theorem lk0_L_move : LK0H M_L_move 3 := ⟨(lw_all_mem (List.mem_append_right _ (List.mem_of_getElem? (i := 0) (by decide +kernel))) (by decide +kernel)), (lw_all_mem (List.mem_append_right _ (List.mem_of_getElem? (i := 1232) (by decide +kernel))) (by decide +kernel)), ⟨by decide +kernel, by decide +kernel, by decide +kernel⟩, by decide +kernel⟩
theorem lk0_L_neighbour : LK0H M_L_neighbour 4 := ⟨(lw_all_mem (List.mem_append_right _ (List.mem_of_getElem? (i := 0) (by decide +kernel))) (by decide +kernel)), (lw_all_mem (List.mem_append_right _ (List.mem_of_getElem? (i := 945) (by decide +kernel))) (by decide +kernel)), ⟨by decide +kernel, by decide +kernel, by decide +kernel⟩, by decide +kernel⟩
theorem lk0_L_playForced : LK0H M_L_playForced 3 := ⟨(lw_all_mem (List.mem_append_right _ (List.mem_of_getElem? (i := 0) (by decide +kernel))) (by decide +kernel)), (lw_all_mem (List.mem_append_right _ (List.mem_of_getElem? (i := 1253) (by decide +kernel))) (by decide +kernel)), ⟨by decide +kernel, by decide +kernel, by decide +kernel⟩, by decide +kernel⟩
theorem lk0_L_potential : LK0H M_L_potential 5 := ⟨(lw_all_mem (List.mem_append_right _ (List.mem_of_getElem? (i := 0) (by decide +kernel))) (by decide +kernel)), (lw_all_mem (List.mem_append_right _ (List.mem_of_getElem? (i := 1129) (by decide +kernel))) (by decide +kernel)), ⟨by decide +kernel, by decide +kernel, by decide +kernel⟩, by decide +kernel⟩
theorem lk0_L_put : LK0H M_L_put 4 := ⟨(lw_all_mem (List.mem_append_right _ (List.mem_of_getElem? (i := 0) (by decide +kernel))) (by decide +kernel)), (lw_all_mem (List.mem_append_right _ (List.mem_of_getElem? (i := 1239) (by decide +kernel))) (by decide +kernel)), ⟨by decide +kernel, by decide +kernel, by decide +kernel⟩, by decide +kernel⟩
theorem lk0_L_resistance : LK0H M_L_resistance 4 := ⟨(lw_all_mem (List.mem_append_right _ (List.mem_of_getElem? (i := 0) (by decide +kernel))) (by decide +kernel)), (lw_all_mem (List.mem_append_right _ (List.mem_of_getElem? (i := 1169) (by decide +kernel))) (by decide +kernel)), ⟨by decide +kernel, by decide +kernel, by decide +kernel⟩, by decide +kernel⟩
theorem lk0_L_restoreSnapshot : LK0H M_L_restoreSnapshot 3 := ⟨(lw_all_mem (List.mem_append_right _ (List.mem_of_getElem? (i := 0) (by decide +kernel))) (by decide +kernel)), (lw_all_mem (List.mem_append_right _ (List.mem_of_getElem? (i := 1285) (by decide +kernel))) (by decide +kernel)), ⟨by decide +kernel, by decide +kernel, by decide +kernel⟩, by decide +kernel⟩
theorem lk0_L_saveSnapshot : LK0H M_L_saveSnapshot 3 := ⟨(lw_all_mem (List.mem_append_right _ (List.mem_of_getElem? (i := 0) (by decide +kernel))) (by decide +kernel)), (lw_all_mem (List.mem_append_right _ (List.mem_of_getElem? (i := 1278) (by decide +kernel))) (by decide +kernel)), ⟨by decide +kernel, by decide +kernel, by decide +kernel⟩, by decide +kernel⟩
theorem lk0_L_setTurn : LK0H M_L_setTurn 3 := ⟨(lw_all_mem (List.mem_append_right _ (List.mem_of_getElem? (i := 0) (by decide +kernel))) (by decide +kernel)), (lw_all_mem (List.mem_append_right _ (List.mem_of_getElem? (i := 1246) (by decide +kernel))) (by decide +kernel)), ⟨by decide +kernel, by decide +kernel, by decide +kernel⟩, by decide +kernel⟩
theorem lk0_L_size : LK0H M_L_size 3 := ⟨(lw_all_mem (List.mem_append_right _ (List.mem_of_getElem? (i := 0) (by decide +kernel))) (by decide +kernel)), (lw_all_mem (List.mem_append_right _ (List.mem_of_getElem? (i := 843) (by decide +kernel))) (by decide +kernel)), ⟨by decide +kernel, by decide +kernel, by decide +kernel⟩, by decide +kernel⟩
theorem lk0_L_threat : LK0H M_L_threat 4 := ⟨(lw_all_mem (List.mem_append_right _ (List.mem_of_getElem? (i := 0) (by decide +kernel))) (by decide +kernel)), (lw_all_mem (List.mem_append_right _ (List.mem_of_getElem? (i := 1096) (by decide +kernel))) (by decide +kernel)), ⟨by decide +kernel, by decide +kernel, by decide +kernel⟩, by decide +kernel⟩
theorem lk0_L_threats : LK0H M_L_threats 3 := ⟨(lw_all_mem (List.mem_append_right _ (List.mem_of_getElem? (i := 0) (by decide +kernel))) (by decide +kernel)), (lw_all_mem (List.mem_append_right _ (List.mem_of_getElem? (i := 1089) (by decide +kernel))) (by decide +kernel)), ⟨by decide +kernel, by decide +kernel, by decide +kernel⟩, by decide +kernel⟩
theorem lk0_L_through : LK0H M_L_through 4 := ⟨(lw_all_mem (List.mem_append_right _ (List.mem_of_getElem? (i := 0) (by decide +kernel))) (by decide +kernel)), (lw_all_mem (List.mem_append_right _ (List.mem_of_getElem? (i := 1115) (by decide +kernel))) (by decide +kernel)), ⟨by decide +kernel, by decide +kernel, by decide +kernel⟩, by decide +kernel⟩
theorem lk0_L_useful : LK0H M_L_useful 3 := ⟨(lw_all_mem (List.mem_append_right _ (List.mem_of_getElem? (i := 0) (by decide +kernel))) (by decide +kernel)), (lw_all_mem (List.mem_append_right _ (List.mem_of_getElem? (i := 1122) (by decide +kernel))) (by decide +kernel)), ⟨by decide +kernel, by decide +kernel, by decide +kernel⟩, by decide +kernel⟩
theorem lk0_L_writeCell : LK0H M_L_writeCell 3 := ⟨(lw_all_mem (List.mem_append_right _ (List.mem_of_getElem? (i := 0) (by decide +kernel))) (by decide +kernel)), (lw_all_mem (List.mem_append_right _ (List.mem_of_getElem? (i := 1269) (by decide +kernel))) (by decide +kernel)), ⟨by decide +kernel, by decide +kernel, by decide +kernel⟩, by decide +kernel⟩
theorem lk0_L_writeRow : LK0H M_L_writeRow 3 := ⟨(lw_all_mem (List.mem_append_right _ (List.mem_of_getElem? (i := 0) (by decide +kernel))) (by decide +kernel)), (lw_all_mem (List.mem_append_right _ (List.mem_of_getElem? (i := 1260) (by decide +kernel))) (by decide +kernel)), ⟨by decide +kernel, by decide +kernel, by decide +kernel⟩, by decide +kernel⟩
theorem lk0_X11_answer : LK0 M_X11_answer 1 := ⟨(lw_all_mem (List.mem_append_right _ (List.mem_of_getElem? (i := 1) (by decide +kernel))) (by decide +kernel)), (lw_all_mem (List.mem_append_right _ (List.mem_of_getElem? (i := 1086) (by decide +kernel))) (by decide +kernel)), ⟨by decide +kernel, by decide +kernel, by decide +kernel⟩, by decide +kernel⟩
theorem lk0_X11_append : LK0 M_X11_append 1 := ⟨(lw_all_mem (List.mem_append_right _ (List.mem_of_getElem? (i := 1) (by decide +kernel))) (by decide +kernel)), (lw_all_mem (List.mem_append_right _ (List.mem_of_getElem? (i := 414) (by decide +kernel))) (by decide +kernel)), ⟨by decide +kernel, by decide +kernel, by decide +kernel⟩, by decide +kernel⟩
theorem lk0_X11_balance : LK0 M_X11_balance 1 := ⟨(lw_all_mem (List.mem_append_right _ (List.mem_of_getElem? (i := 1) (by decide +kernel))) (by decide +kernel)), (lw_all_mem (List.mem_append_right _ (List.mem_of_getElem? (i := 1181) (by decide +kernel))) (by decide +kernel)), ⟨by decide +kernel, by decide +kernel, by decide +kernel⟩, by decide +kernel⟩
theorem lk0_X11_bestMove : LK0 M_X11_bestMove 0 := ⟨(lw_all_mem (List.mem_append_right _ (List.mem_of_getElem? (i := 1) (by decide +kernel))) (by decide +kernel)), (lw_all_mem (List.mem_append_right _ (List.mem_of_getElem? (i := 764) (by decide +kernel))) (by decide +kernel)), ⟨by decide +kernel, by decide +kernel, by decide +kernel⟩, by decide +kernel⟩
theorem lk0_X11_bridge : LK0 M_X11_bridge 3 := ⟨(lw_all_mem (List.mem_append_right _ (List.mem_of_getElem? (i := 1) (by decide +kernel))) (by decide +kernel)), (lw_all_mem (List.mem_append_right _ (List.mem_of_getElem? (i := 1031) (by decide +kernel))) (by decide +kernel)), ⟨by decide +kernel, by decide +kernel, by decide +kernel⟩, by decide +kernel⟩
theorem lk0_X11_bridges : LK0 M_X11_bridges 2 := ⟨(lw_all_mem (List.mem_append_right _ (List.mem_of_getElem? (i := 1) (by decide +kernel))) (by decide +kernel)), (lw_all_mem (List.mem_append_right _ (List.mem_of_getElem? (i := 1020) (by decide +kernel))) (by decide +kernel)), ⟨by decide +kernel, by decide +kernel, by decide +kernel⟩, by decide +kernel⟩
theorem lk0_X11_cell : LK0 M_X11_cell 1 := ⟨(lw_all_mem (List.mem_append_right _ (List.mem_of_getElem? (i := 1) (by decide +kernel))) (by decide +kernel)), (lw_all_mem (List.mem_append_right _ (List.mem_of_getElem? (i := 922) (by decide +kernel))) (by decide +kernel)), ⟨by decide +kernel, by decide +kernel, by decide +kernel⟩, by decide +kernel⟩
theorem lk0_X11_chain : LK0 M_X11_chain 2 := ⟨(lw_all_mem (List.mem_append_right _ (List.mem_of_getElem? (i := 1) (by decide +kernel))) (by decide +kernel)), (lw_all_mem (List.mem_append_right _ (List.mem_of_getElem? (i := 1042) (by decide +kernel))) (by decide +kernel)), ⟨by decide +kernel, by decide +kernel, by decide +kernel⟩, by decide +kernel⟩
theorem lk0_X11_chains : LK0 M_X11_chains 1 := ⟨(lw_all_mem (List.mem_append_right _ (List.mem_of_getElem? (i := 1) (by decide +kernel))) (by decide +kernel)), (lw_all_mem (List.mem_append_right _ (List.mem_of_getElem? (i := 1072) (by decide +kernel))) (by decide +kernel)), ⟨by decide +kernel, by decide +kernel, by decide +kernel⟩, by decide +kernel⟩
theorem lk0_X11_current : LK0 M_X11_current 2 := ⟨(lw_all_mem (List.mem_append_right _ (List.mem_of_getElem? (i := 1) (by decide +kernel))) (by decide +kernel)), (lw_all_mem (List.mem_append_right _ (List.mem_of_getElem? (i := 1166) (by decide +kernel))) (by decide +kernel)), ⟨by decide +kernel, by decide +kernel, by decide +kernel⟩, by decide +kernel⟩
theorem lk0_X11_distance : LK0 M_X11_distance 1 := ⟨(lw_all_mem (List.mem_append_right _ (List.mem_of_getElem? (i := 1) (by decide +kernel))) (by decide +kernel)), (lw_all_mem (List.mem_append_right _ (List.mem_of_getElem? (i := 1107) (by decide +kernel))) (by decide +kernel)), ⟨by decide +kernel, by decide +kernel, by decide +kernel⟩, by decide +kernel⟩
theorem lk0_X11_filled : LK0 M_X11_filled 1 := ⟨(lw_all_mem (List.mem_append_right _ (List.mem_of_getElem? (i := 1) (by decide +kernel))) (by decide +kernel)), (lw_all_mem (List.mem_append_right _ (List.mem_of_getElem? (i := 1189) (by decide +kernel))) (by decide +kernel)), ⟨by decide +kernel, by decide +kernel, by decide +kernel⟩, by decide +kernel⟩
theorem lk0_X11_fillings : LK0 M_X11_fillings 3 := ⟨(lw_all_mem (List.mem_append_right _ (List.mem_of_getElem? (i := 1) (by decide +kernel))) (by decide +kernel)), (lw_all_mem (List.mem_append_right _ (List.mem_of_getElem? (i := 1216) (by decide +kernel))) (by decide +kernel)), ⟨by decide +kernel, by decide +kernel, by decide +kernel⟩, by decide +kernel⟩
theorem lk0_X11_forced : LK0 M_X11_forced 0 := ⟨(lw_all_mem (List.mem_append_right _ (List.mem_of_getElem? (i := 1) (by decide +kernel))) (by decide +kernel)), (lw_all_mem (List.mem_append_right _ (List.mem_of_getElem? (i := 613) (by decide +kernel))) (by decide +kernel)), ⟨by decide +kernel, by decide +kernel, by decide +kernel⟩, by decide +kernel⟩
theorem lk0_X11_forcedRow : LK0 M_X11_forcedRow 0 := ⟨(lw_all_mem (List.mem_append_right _ (List.mem_of_getElem? (i := 1) (by decide +kernel))) (by decide +kernel)), (lw_all_mem (List.mem_append_right _ (List.mem_of_getElem? (i := 823) (by decide +kernel))) (by decide +kernel)), ⟨by decide +kernel, by decide +kernel, by decide +kernel⟩, by decide +kernel⟩
theorem lk0_X11_forcedWinner : LK0 M_X11_forcedWinner 0 := ⟨(lw_all_mem (List.mem_append_right _ (List.mem_of_getElem? (i := 1) (by decide +kernel))) (by decide +kernel)), (lw_all_mem (List.mem_append_right _ (List.mem_of_getElem? (i := 815) (by decide +kernel))) (by decide +kernel)), ⟨by decide +kernel, by decide +kernel, by decide +kernel⟩, by decide +kernel⟩
theorem lk0_X11_fullness : LK0 M_X11_fullness 0 := ⟨(lw_all_mem (List.mem_append_right _ (List.mem_of_getElem? (i := 1) (by decide +kernel))) (by decide +kernel)), (lw_all_mem (List.mem_append_right _ (List.mem_of_getElem? (i := 827) (by decide +kernel))) (by decide +kernel)), ⟨by decide +kernel, by decide +kernel, by decide +kernel⟩, by decide +kernel⟩
theorem lk0_X11_giveUp : LK0 M_X11_giveUp 0 := ⟨(lw_all_mem (List.mem_append_right _ (List.mem_of_getElem? (i := 1) (by decide +kernel))) (by decide +kernel)), (lw_all_mem (List.mem_append_right _ (List.mem_of_getElem? (i := 798) (by decide +kernel))) (by decide +kernel)), ⟨by decide +kernel, by decide +kernel, by decide +kernel⟩, by decide +kernel⟩
theorem lk0_X11_goodMoves : LK0 M_X11_goodMoves 0 := ⟨(lw_all_mem (List.mem_append_right _ (List.mem_of_getElem? (i := 1) (by decide +kernel))) (by decide +kernel)), (lw_all_mem (List.mem_append_right _ (List.mem_of_getElem? (i := 752) (by decide +kernel))) (by decide +kernel)), ⟨by decide +kernel, by decide +kernel, by decide +kernel⟩, by decide +kernel⟩
theorem lk0_X11_group : LK0 M_X11_group 2 := ⟨(lw_all_mem (List.mem_append_right _ (List.mem_of_getElem? (i := 1) (by decide +kernel))) (by decide +kernel)), (lw_all_mem (List.mem_append_right _ (List.mem_of_getElem? (i := 957) (by decide +kernel))) (by decide +kernel)), ⟨by decide +kernel, by decide +kernel, by decide +kernel⟩, by decide +kernel⟩
theorem lk0_X11_groups : LK0 M_X11_groups 1 := ⟨(lw_all_mem (List.mem_append_right _ (List.mem_of_getElem? (i := 1) (by decide +kernel))) (by decide +kernel)), (lw_all_mem (List.mem_append_right _ (List.mem_of_getElem? (i := 981) (by decide +kernel))) (by decide +kernel)), ⟨by decide +kernel, by decide +kernel, by decide +kernel⟩, by decide +kernel⟩
theorem lk0_X11_idle : LK0 M_X11_idle 1 := ⟨(lw_all_mem (List.mem_append_right _ (List.mem_of_getElem? (i := 1) (by decide +kernel))) (by decide +kernel)), (lw_all_mem (List.mem_append_right _ (List.mem_of_getElem? (i := 1223) (by decide +kernel))) (by decide +kernel)), ⟨by decide +kernel, by decide +kernel, by decide +kernel⟩, by decide +kernel⟩
theorem lk0_X11_isBridge : LK0 M_X11_isBridge 2 := ⟨(lw_all_mem (List.mem_append_right _ (List.mem_of_getElem? (i := 1) (by decide +kernel))) (by decide +kernel)), (lw_all_mem (List.mem_append_right _ (List.mem_of_getElem? (i := 1007) (by decide +kernel))) (by decide +kernel)), ⟨by decide +kernel, by decide +kernel, by decide +kernel⟩, by decide +kernel⟩
theorem lk0_X11_isSafe : LK0 M_X11_isSafe 1 := ⟨(lw_all_mem (List.mem_append_right _ (List.mem_of_getElem? (i := 1) (by decide +kernel))) (by decide +kernel)), (lw_all_mem (List.mem_append_right _ (List.mem_of_getElem? (i := 1079) (by decide +kernel))) (by decide +kernel)), ⟨by decide +kernel, by decide +kernel, by decide +kernel⟩, by decide +kernel⟩
theorem lk0_X11_largest : LK0 M_X11_largest 1 := ⟨(lw_all_mem (List.mem_append_right _ (List.mem_of_getElem? (i := 1) (by decide +kernel))) (by decide +kernel)), (lw_all_mem (List.mem_append_right _ (List.mem_of_getElem? (i := 996) (by decide +kernel))) (by decide +kernel)), ⟨by decide +kernel, by decide +kernel, by decide +kernel⟩, by decide +kernel⟩
theorem lk0_X11_load : LK0 M_X11_load 0 := ⟨(lw_all_mem (List.mem_append_right _ (List.mem_of_getElem? (i := 1) (by decide +kernel))) (by decide +kernel)), (lw_all_mem (List.mem_append_right _ (List.mem_of_getElem? (i := 423) (by decide +kernel))) (by decide +kernel)), ⟨by decide +kernel, by decide +kernel, by decide +kernel⟩, by decide +kernel⟩
theorem lk0_X11_loadError : LK0 M_X11_loadError 0 := ⟨(lw_all_mem (List.mem_append_right _ (List.mem_of_getElem? (i := 1) (by decide +kernel))) (by decide +kernel)), (lw_all_mem (List.mem_append_right _ (List.mem_of_getElem? (i := 605) (by decide +kernel))) (by decide +kernel)), ⟨by decide +kernel, by decide +kernel, by decide +kernel⟩, by decide +kernel⟩
theorem lk0_X11_loadStatement : LK0 M_X11_loadStatement 0 := ⟨(lw_all_mem (List.mem_append_right _ (List.mem_of_getElem? (i := 1) (by decide +kernel))) (by decide +kernel)), (lw_all_mem (List.mem_append_right _ (List.mem_of_getElem? (i := 609) (by decide +kernel))) (by decide +kernel)), ⟨by decide +kernel, by decide +kernel, by decide +kernel⟩, by decide +kernel⟩
theorem lk0_X11_move : LK0 M_X11_move 1 := ⟨(lw_all_mem (List.mem_append_right _ (List.mem_of_getElem? (i := 1) (by decide +kernel))) (by decide +kernel)), (lw_all_mem (List.mem_append_right _ (List.mem_of_getElem? (i := 1236) (by decide +kernel))) (by decide +kernel)), ⟨by decide +kernel, by decide +kernel, by decide +kernel⟩, by decide +kernel⟩
theorem lk0_X11_moveAt : LK0 M_X11_moveAt 1 := ⟨(lw_all_mem (List.mem_append_right _ (List.mem_of_getElem? (i := 1) (by decide +kernel))) (by decide +kernel)), (lw_all_mem (List.mem_append_right _ (List.mem_of_getElem? (i := 772) (by decide +kernel))) (by decide +kernel)), ⟨by decide +kernel, by decide +kernel, by decide +kernel⟩, by decide +kernel⟩
theorem lk0_X11_neighbour : LK0 M_X11_neighbour 2 := ⟨(lw_all_mem (List.mem_append_right _ (List.mem_of_getElem? (i := 1) (by decide +kernel))) (by decide +kernel)), (lw_all_mem (List.mem_append_right _ (List.mem_of_getElem? (i := 949) (by decide +kernel))) (by decide +kernel)), ⟨by decide +kernel, by decide +kernel, by decide +kernel⟩, by decide +kernel⟩
theorem lk0_X11_outputByte : LK0 M_X11_outputByte 1 := ⟨(lw_all_mem (List.mem_append_right _ (List.mem_of_getElem? (i := 1) (by decide +kernel))) (by decide +kernel)), (lw_all_mem (List.mem_append_right _ (List.mem_of_getElem? (i := 831) (by decide +kernel))) (by decide +kernel)), ⟨by decide +kernel, by decide +kernel, by decide +kernel⟩, by decide +kernel⟩
theorem lk0_X11_playForced : LK0 M_X11_playForced 1 := ⟨(lw_all_mem (List.mem_append_right _ (List.mem_of_getElem? (i := 1) (by decide +kernel))) (by decide +kernel)), (lw_all_mem (List.mem_append_right _ (List.mem_of_getElem? (i := 1257) (by decide +kernel))) (by decide +kernel)), ⟨by decide +kernel, by decide +kernel, by decide +kernel⟩, by decide +kernel⟩
theorem lk0_X11_potential : LK0 M_X11_potential 3 := ⟨(lw_all_mem (List.mem_append_right _ (List.mem_of_getElem? (i := 1) (by decide +kernel))) (by decide +kernel)), (lw_all_mem (List.mem_append_right _ (List.mem_of_getElem? (i := 1133) (by decide +kernel))) (by decide +kernel)), ⟨by decide +kernel, by decide +kernel, by decide +kernel⟩, by decide +kernel⟩
theorem lk0_X11_put : LK0 M_X11_put 2 := ⟨(lw_all_mem (List.mem_append_right _ (List.mem_of_getElem? (i := 1) (by decide +kernel))) (by decide +kernel)), (lw_all_mem (List.mem_append_right _ (List.mem_of_getElem? (i := 1243) (by decide +kernel))) (by decide +kernel)), ⟨by decide +kernel, by decide +kernel, by decide +kernel⟩, by decide +kernel⟩
theorem lk0_X11_resistance : LK0 M_X11_resistance 2 := ⟨(lw_all_mem (List.mem_append_right _ (List.mem_of_getElem? (i := 1) (by decide +kernel))) (by decide +kernel)), (lw_all_mem (List.mem_append_right _ (List.mem_of_getElem? (i := 1173) (by decide +kernel))) (by decide +kernel)), ⟨by decide +kernel, by decide +kernel, by decide +kernel⟩, by decide +kernel⟩
theorem lk0_X11_restoreSnapshot : LK0 M_X11_restoreSnapshot 1 := ⟨(lw_all_mem (List.mem_append_right _ (List.mem_of_getElem? (i := 1) (by decide +kernel))) (by decide +kernel)), (lw_all_mem (List.mem_append_right _ (List.mem_of_getElem? (i := 1289) (by decide +kernel))) (by decide +kernel)), ⟨by decide +kernel, by decide +kernel, by decide +kernel⟩, by decide +kernel⟩
theorem lk0_X11_saveSnapshot : LK0 M_X11_saveSnapshot 1 := ⟨(lw_all_mem (List.mem_append_right _ (List.mem_of_getElem? (i := 1) (by decide +kernel))) (by decide +kernel)), (lw_all_mem (List.mem_append_right _ (List.mem_of_getElem? (i := 1282) (by decide +kernel))) (by decide +kernel)), ⟨by decide +kernel, by decide +kernel, by decide +kernel⟩, by decide +kernel⟩
theorem lk0_X11_setTurn : LK0 M_X11_setTurn 1 := ⟨(lw_all_mem (List.mem_append_right _ (List.mem_of_getElem? (i := 1) (by decide +kernel))) (by decide +kernel)), (lw_all_mem (List.mem_append_right _ (List.mem_of_getElem? (i := 1250) (by decide +kernel))) (by decide +kernel)), ⟨by decide +kernel, by decide +kernel, by decide +kernel⟩, by decide +kernel⟩
theorem lk0_X11_shared : LK0 M_X11_shared 0 := ⟨(lw_all_mem (List.mem_append_right _ (List.mem_of_getElem? (i := 1) (by decide +kernel))) (by decide +kernel)), (lw_all_mem (List.mem_append_right _ (List.mem_of_getElem? (i := 690) (by decide +kernel))) (by decide +kernel)), ⟨by decide +kernel, by decide +kernel, by decide +kernel⟩, by decide +kernel⟩
theorem lk0_X11_size : LK0 M_X11_size 1 := ⟨(lw_all_mem (List.mem_append_right _ (List.mem_of_getElem? (i := 1) (by decide +kernel))) (by decide +kernel)), (lw_all_mem (List.mem_append_right _ (List.mem_of_getElem? (i := 848) (by decide +kernel))) (by decide +kernel)), ⟨by decide +kernel, by decide +kernel, by decide +kernel⟩, by decide +kernel⟩
theorem lk0_X11_solved : LK0 M_X11_solved 0 := ⟨(lw_all_mem (List.mem_append_right _ (List.mem_of_getElem? (i := 1) (by decide +kernel))) (by decide +kernel)), (lw_all_mem (List.mem_append_right _ (List.mem_of_getElem? (i := 718) (by decide +kernel))) (by decide +kernel)), ⟨by decide +kernel, by decide +kernel, by decide +kernel⟩, by decide +kernel⟩
theorem lk0_X11_swap : LK0 M_X11_swap 0 := ⟨(lw_all_mem (List.mem_append_right _ (List.mem_of_getElem? (i := 1) (by decide +kernel))) (by decide +kernel)), (lw_all_mem (List.mem_append_right _ (List.mem_of_getElem? (i := 776) (by decide +kernel))) (by decide +kernel)), ⟨by decide +kernel, by decide +kernel, by decide +kernel⟩, by decide +kernel⟩
theorem lk0_X11_threat : LK0 M_X11_threat 2 := ⟨(lw_all_mem (List.mem_append_right _ (List.mem_of_getElem? (i := 1) (by decide +kernel))) (by decide +kernel)), (lw_all_mem (List.mem_append_right _ (List.mem_of_getElem? (i := 1100) (by decide +kernel))) (by decide +kernel)), ⟨by decide +kernel, by decide +kernel, by decide +kernel⟩, by decide +kernel⟩
theorem lk0_X11_threats : LK0 M_X11_threats 1 := ⟨(lw_all_mem (List.mem_append_right _ (List.mem_of_getElem? (i := 1) (by decide +kernel))) (by decide +kernel)), (lw_all_mem (List.mem_append_right _ (List.mem_of_getElem? (i := 1093) (by decide +kernel))) (by decide +kernel)), ⟨by decide +kernel, by decide +kernel, by decide +kernel⟩, by decide +kernel⟩
theorem lk0_X11_through : LK0 M_X11_through 2 := ⟨(lw_all_mem (List.mem_append_right _ (List.mem_of_getElem? (i := 1) (by decide +kernel))) (by decide +kernel)), (lw_all_mem (List.mem_append_right _ (List.mem_of_getElem? (i := 1119) (by decide +kernel))) (by decide +kernel)), ⟨by decide +kernel, by decide +kernel, by decide +kernel⟩, by decide +kernel⟩
theorem lk0_X11_turnOver : LK0 M_X11_turnOver 0 := ⟨(lw_all_mem (List.mem_append_right _ (List.mem_of_getElem? (i := 1) (by decide +kernel))) (by decide +kernel)), (lw_all_mem (List.mem_append_right _ (List.mem_of_getElem? (i := 802) (by decide +kernel))) (by decide +kernel)), ⟨by decide +kernel, by decide +kernel, by decide +kernel⟩, by decide +kernel⟩
theorem lk0_X11_undo : LK0 M_X11_undo 0 := ⟨(lw_all_mem (List.mem_append_right _ (List.mem_of_getElem? (i := 1) (by decide +kernel))) (by decide +kernel)), (lw_all_mem (List.mem_append_right _ (List.mem_of_getElem? (i := 836) (by decide +kernel))) (by decide +kernel)), ⟨by decide +kernel, by decide +kernel, by decide +kernel⟩, by decide +kernel⟩
theorem lk0_X11_useful : LK0 M_X11_useful 1 := ⟨(lw_all_mem (List.mem_append_right _ (List.mem_of_getElem? (i := 1) (by decide +kernel))) (by decide +kernel)), (lw_all_mem (List.mem_append_right _ (List.mem_of_getElem? (i := 1126) (by decide +kernel))) (by decide +kernel)), ⟨by decide +kernel, by decide +kernel, by decide +kernel⟩, by decide +kernel⟩
theorem lk0_X11_writeCell : LK0 M_X11_writeCell 1 := ⟨(lw_all_mem (List.mem_append_right _ (List.mem_of_getElem? (i := 1) (by decide +kernel))) (by decide +kernel)), (lw_all_mem (List.mem_append_right _ (List.mem_of_getElem? (i := 1273) (by decide +kernel))) (by decide +kernel)), ⟨by decide +kernel, by decide +kernel, by decide +kernel⟩, by decide +kernel⟩
theorem lk0_X11_writeRow : LK0 M_X11_writeRow 1 := ⟨(lw_all_mem (List.mem_append_right _ (List.mem_of_getElem? (i := 1) (by decide +kernel))) (by decide +kernel)), (lw_all_mem (List.mem_append_right _ (List.mem_of_getElem? (i := 1264) (by decide +kernel))) (by decide +kernel)), ⟨by decide +kernel, by decide +kernel, by decide +kernel⟩, by decide +kernel⟩
theorem lk0_X12_answer : LK0 M_X12_answer 1 := ⟨(lw_all_mem (List.mem_append_right _ (List.mem_of_getElem? (i := 14) (by decide +kernel))) (by decide +kernel)), (lw_all_mem (List.mem_append_right _ (List.mem_of_getElem? (i := 1719) (by decide +kernel))) (by decide +kernel)), ⟨by decide +kernel, by decide +kernel, by decide +kernel⟩, by decide +kernel⟩
theorem lk0_X12_append : LK0 M_X12_append 1 := ⟨(lw_all_mem (List.mem_append_right _ (List.mem_of_getElem? (i := 14) (by decide +kernel))) (by decide +kernel)), (lw_all_mem (List.mem_append_right _ (List.mem_of_getElem? (i := 1421) (by decide +kernel))) (by decide +kernel)), ⟨by decide +kernel, by decide +kernel, by decide +kernel⟩, by decide +kernel⟩
theorem lk0_X12_balance : LK0 M_X12_balance 1 := ⟨(lw_all_mem (List.mem_append_right _ (List.mem_of_getElem? (i := 14) (by decide +kernel))) (by decide +kernel)), (lw_all_mem (List.mem_append_right _ (List.mem_of_getElem? (i := 1826) (by decide +kernel))) (by decide +kernel)), ⟨by decide +kernel, by decide +kernel, by decide +kernel⟩, by decide +kernel⟩
theorem lk0_X12_bestMove : LK0 M_X12_bestMove 0 := ⟨(lw_all_mem (List.mem_append_right _ (List.mem_of_getElem? (i := 14) (by decide +kernel))) (by decide +kernel)), (lw_all_mem (List.mem_append_right _ (List.mem_of_getElem? (i := 1851) (by decide +kernel))) (by decide +kernel)), ⟨by decide +kernel, by decide +kernel, by decide +kernel⟩, by decide +kernel⟩
theorem lk0_X12_bridge : LK0 M_X12_bridge 3 := ⟨(lw_all_mem (List.mem_append_right _ (List.mem_of_getElem? (i := 14) (by decide +kernel))) (by decide +kernel)), (lw_all_mem (List.mem_append_right _ (List.mem_of_getElem? (i := 1686) (by decide +kernel))) (by decide +kernel)), ⟨by decide +kernel, by decide +kernel, by decide +kernel⟩, by decide +kernel⟩
theorem lk0_X12_bridges : LK0 M_X12_bridges 2 := ⟨(lw_all_mem (List.mem_append_right _ (List.mem_of_getElem? (i := 14) (by decide +kernel))) (by decide +kernel)), (lw_all_mem (List.mem_append_right _ (List.mem_of_getElem? (i := 1669) (by decide +kernel))) (by decide +kernel)), ⟨by decide +kernel, by decide +kernel, by decide +kernel⟩, by decide +kernel⟩
theorem lk0_X12_cell : LK0 M_X12_cell 1 := ⟨(lw_all_mem (List.mem_append_right _ (List.mem_of_getElem? (i := 14) (by decide +kernel))) (by decide +kernel)), (lw_all_mem (List.mem_append_right _ (List.mem_of_getElem? (i := 1601) (by decide +kernel))) (by decide +kernel)), ⟨by decide +kernel, by decide +kernel, by decide +kernel⟩, by decide +kernel⟩
theorem lk0_X12_chain : LK0 M_X12_chain 2 := ⟨(lw_all_mem (List.mem_append_right _ (List.mem_of_getElem? (i := 14) (by decide +kernel))) (by decide +kernel)), (lw_all_mem (List.mem_append_right _ (List.mem_of_getElem? (i := 1691) (by decide +kernel))) (by decide +kernel)), ⟨by decide +kernel, by decide +kernel, by decide +kernel⟩, by decide +kernel⟩
theorem lk0_X12_chains : LK0 M_X12_chains 1 := ⟨(lw_all_mem (List.mem_append_right _ (List.mem_of_getElem? (i := 14) (by decide +kernel))) (by decide +kernel)), (lw_all_mem (List.mem_append_right _ (List.mem_of_getElem? (i := 1711) (by decide +kernel))) (by decide +kernel)), ⟨by decide +kernel, by decide +kernel, by decide +kernel⟩, by decide +kernel⟩
theorem lk0_X12_current : LK0 M_X12_current 2 := ⟨(lw_all_mem (List.mem_append_right _ (List.mem_of_getElem? (i := 14) (by decide +kernel))) (by decide +kernel)), (lw_all_mem (List.mem_append_right _ (List.mem_of_getElem? (i := 1813) (by decide +kernel))) (by decide +kernel)), ⟨by decide +kernel, by decide +kernel, by decide +kernel⟩, by decide +kernel⟩
theorem lk0_X12_distance : LK0 M_X12_distance 1 := ⟨(lw_all_mem (List.mem_append_right _ (List.mem_of_getElem? (i := 14) (by decide +kernel))) (by decide +kernel)), (lw_all_mem (List.mem_append_right _ (List.mem_of_getElem? (i := 1755) (by decide +kernel))) (by decide +kernel)), ⟨by decide +kernel, by decide +kernel, by decide +kernel⟩, by decide +kernel⟩
theorem lk0_X12_filled : LK0 M_X12_filled 1 := ⟨(lw_all_mem (List.mem_append_right _ (List.mem_of_getElem? (i := 14) (by decide +kernel))) (by decide +kernel)), (lw_all_mem (List.mem_append_right _ (List.mem_of_getElem? (i := 1855) (by decide +kernel))) (by decide +kernel)), ⟨by decide +kernel, by decide +kernel, by decide +kernel⟩, by decide +kernel⟩
theorem lk0_X12_fillings : LK0 M_X12_fillings 3 := ⟨(lw_all_mem (List.mem_append_right _ (List.mem_of_getElem? (i := 14) (by decide +kernel))) (by decide +kernel)), (lw_all_mem (List.mem_append_right _ (List.mem_of_getElem? (i := 1868) (by decide +kernel))) (by decide +kernel)), ⟨by decide +kernel, by decide +kernel, by decide +kernel⟩, by decide +kernel⟩
theorem lk0_X12_forced : LK0 M_X12_forced 0 := ⟨(lw_all_mem (List.mem_append_right _ (List.mem_of_getElem? (i := 14) (by decide +kernel))) (by decide +kernel)), (lw_all_mem (List.mem_append_right _ (List.mem_of_getElem? (i := 1743) (by decide +kernel))) (by decide +kernel)), ⟨by decide +kernel, by decide +kernel, by decide +kernel⟩, by decide +kernel⟩
theorem lk0_X12_forcedRow : LK0 M_X12_forcedRow 0 := ⟨(lw_all_mem (List.mem_append_right _ (List.mem_of_getElem? (i := 14) (by decide +kernel))) (by decide +kernel)), (lw_all_mem (List.mem_append_right _ (List.mem_of_getElem? (i := 1929) (by decide +kernel))) (by decide +kernel)), ⟨by decide +kernel, by decide +kernel, by decide +kernel⟩, by decide +kernel⟩
theorem lk0_X12_forcedWinner : LK0 M_X12_forcedWinner 0 := ⟨(lw_all_mem (List.mem_append_right _ (List.mem_of_getElem? (i := 14) (by decide +kernel))) (by decide +kernel)), (lw_all_mem (List.mem_append_right _ (List.mem_of_getElem? (i := 1925) (by decide +kernel))) (by decide +kernel)), ⟨by decide +kernel, by decide +kernel, by decide +kernel⟩, by decide +kernel⟩
theorem lk0_X12_fullness : LK0 M_X12_fullness 0 := ⟨(lw_all_mem (List.mem_append_right _ (List.mem_of_getElem? (i := 14) (by decide +kernel))) (by decide +kernel)), (lw_all_mem (List.mem_append_right _ (List.mem_of_getElem? (i := 1933) (by decide +kernel))) (by decide +kernel)), ⟨by decide +kernel, by decide +kernel, by decide +kernel⟩, by decide +kernel⟩
theorem lk0_X12_giveUp : LK0 M_X12_giveUp 0 := ⟨(lw_all_mem (List.mem_append_right _ (List.mem_of_getElem? (i := 14) (by decide +kernel))) (by decide +kernel)), (lw_all_mem (List.mem_append_right _ (List.mem_of_getElem? (i := 1896) (by decide +kernel))) (by decide +kernel)), ⟨by decide +kernel, by decide +kernel, by decide +kernel⟩, by decide +kernel⟩
theorem lk0_X12_goodMoves : LK0 M_X12_goodMoves 0 := ⟨(lw_all_mem (List.mem_append_right _ (List.mem_of_getElem? (i := 14) (by decide +kernel))) (by decide +kernel)), (lw_all_mem (List.mem_append_right _ (List.mem_of_getElem? (i := 1843) (by decide +kernel))) (by decide +kernel)), ⟨by decide +kernel, by decide +kernel, by decide +kernel⟩, by decide +kernel⟩
theorem lk0_X12_group : LK0 M_X12_group 2 := ⟨(lw_all_mem (List.mem_append_right _ (List.mem_of_getElem? (i := 14) (by decide +kernel))) (by decide +kernel)), (lw_all_mem (List.mem_append_right _ (List.mem_of_getElem? (i := 1617) (by decide +kernel))) (by decide +kernel)), ⟨by decide +kernel, by decide +kernel, by decide +kernel⟩, by decide +kernel⟩
theorem lk0_X12_groups : LK0 M_X12_groups 1 := ⟨(lw_all_mem (List.mem_append_right _ (List.mem_of_getElem? (i := 14) (by decide +kernel))) (by decide +kernel)), (lw_all_mem (List.mem_append_right _ (List.mem_of_getElem? (i := 1634) (by decide +kernel))) (by decide +kernel)), ⟨by decide +kernel, by decide +kernel, by decide +kernel⟩, by decide +kernel⟩
theorem lk0_X12_idle : LK0 M_X12_idle 1 := ⟨(lw_all_mem (List.mem_append_right _ (List.mem_of_getElem? (i := 14) (by decide +kernel))) (by decide +kernel)), (lw_all_mem (List.mem_append_right _ (List.mem_of_getElem? (i := 1872) (by decide +kernel))) (by decide +kernel)), ⟨by decide +kernel, by decide +kernel, by decide +kernel⟩, by decide +kernel⟩
theorem lk0_X12_isBridge : LK0 M_X12_isBridge 2 := ⟨(lw_all_mem (List.mem_append_right _ (List.mem_of_getElem? (i := 14) (by decide +kernel))) (by decide +kernel)), (lw_all_mem (List.mem_append_right _ (List.mem_of_getElem? (i := 1649) (by decide +kernel))) (by decide +kernel)), ⟨by decide +kernel, by decide +kernel, by decide +kernel⟩, by decide +kernel⟩
theorem lk0_X12_isSafe : LK0 M_X12_isSafe 1 := ⟨(lw_all_mem (List.mem_append_right _ (List.mem_of_getElem? (i := 14) (by decide +kernel))) (by decide +kernel)), (lw_all_mem (List.mem_append_right _ (List.mem_of_getElem? (i := 1715) (by decide +kernel))) (by decide +kernel)), ⟨by decide +kernel, by decide +kernel, by decide +kernel⟩, by decide +kernel⟩
theorem lk0_X12_largest : LK0 M_X12_largest 1 := ⟨(lw_all_mem (List.mem_append_right _ (List.mem_of_getElem? (i := 14) (by decide +kernel))) (by decide +kernel)), (lw_all_mem (List.mem_append_right _ (List.mem_of_getElem? (i := 1645) (by decide +kernel))) (by decide +kernel)), ⟨by decide +kernel, by decide +kernel, by decide +kernel⟩, by decide +kernel⟩
theorem lk0_X12_load : LK0 M_X12_load 0 := ⟨(lw_all_mem (List.mem_append_right _ (List.mem_of_getElem? (i := 14) (by decide +kernel))) (by decide +kernel)), (lw_all_mem (List.mem_append_right _ (List.mem_of_getElem? (i := 1426) (by decide +kernel))) (by decide +kernel)), ⟨by decide +kernel, by decide +kernel, by decide +kernel⟩, by decide +kernel⟩
theorem lk0_X12_loadError : LK0 M_X12_loadError 0 := ⟨(lw_all_mem (List.mem_append_right _ (List.mem_of_getElem? (i := 14) (by decide +kernel))) (by decide +kernel)), (lw_all_mem (List.mem_append_right _ (List.mem_of_getElem? (i := 1576) (by decide +kernel))) (by decide +kernel)), ⟨by decide +kernel, by decide +kernel, by decide +kernel⟩, by decide +kernel⟩
theorem lk0_X12_loadStatement : LK0 M_X12_loadStatement 0 := ⟨(lw_all_mem (List.mem_append_right _ (List.mem_of_getElem? (i := 14) (by decide +kernel))) (by decide +kernel)), (lw_all_mem (List.mem_append_right _ (List.mem_of_getElem? (i := 1580) (by decide +kernel))) (by decide +kernel)), ⟨by decide +kernel, by decide +kernel, by decide +kernel⟩, by decide +kernel⟩
theorem lk0_X12_move : LK0 M_X12_move 1 := ⟨(lw_all_mem (List.mem_append_right _ (List.mem_of_getElem? (i := 14) (by decide +kernel))) (by decide +kernel)), (lw_all_mem (List.mem_append_right _ (List.mem_of_getElem? (i := 1880) (by decide +kernel))) (by decide +kernel)), ⟨by decide +kernel, by decide +kernel, by decide +kernel⟩, by decide +kernel⟩
theorem lk0_X12_moveAt : LK0 M_X12_moveAt 1 := ⟨(lw_all_mem (List.mem_append_right _ (List.mem_of_getElem? (i := 14) (by decide +kernel))) (by decide +kernel)), (lw_all_mem (List.mem_append_right _ (List.mem_of_getElem? (i := 1876) (by decide +kernel))) (by decide +kernel)), ⟨by decide +kernel, by decide +kernel, by decide +kernel⟩, by decide +kernel⟩
theorem lk0_X12_neighbour : LK0 M_X12_neighbour 2 := ⟨(lw_all_mem (List.mem_append_right _ (List.mem_of_getElem? (i := 14) (by decide +kernel))) (by decide +kernel)), (lw_all_mem (List.mem_append_right _ (List.mem_of_getElem? (i := 1613) (by decide +kernel))) (by decide +kernel)), ⟨by decide +kernel, by decide +kernel, by decide +kernel⟩, by decide +kernel⟩
theorem lk0_X12_outputByte : LK0 M_X12_outputByte 1 := ⟨(lw_all_mem (List.mem_append_right _ (List.mem_of_getElem? (i := 14) (by decide +kernel))) (by decide +kernel)), (lw_all_mem (List.mem_append_right _ (List.mem_of_getElem? (i := 1949) (by decide +kernel))) (by decide +kernel)), ⟨by decide +kernel, by decide +kernel, by decide +kernel⟩, by decide +kernel⟩
theorem lk0_X12_playForced : LK0 M_X12_playForced 1 := ⟨(lw_all_mem (List.mem_append_right _ (List.mem_of_getElem? (i := 14) (by decide +kernel))) (by decide +kernel)), (lw_all_mem (List.mem_append_right _ (List.mem_of_getElem? (i := 1916) (by decide +kernel))) (by decide +kernel)), ⟨by decide +kernel, by decide +kernel, by decide +kernel⟩, by decide +kernel⟩
theorem lk0_X12_potential : LK0 M_X12_potential 3 := ⟨(lw_all_mem (List.mem_append_right _ (List.mem_of_getElem? (i := 14) (by decide +kernel))) (by decide +kernel)), (lw_all_mem (List.mem_append_right _ (List.mem_of_getElem? (i := 1791) (by decide +kernel))) (by decide +kernel)), ⟨by decide +kernel, by decide +kernel, by decide +kernel⟩, by decide +kernel⟩
theorem lk0_X12_put : LK0 M_X12_put 2 := ⟨(lw_all_mem (List.mem_append_right _ (List.mem_of_getElem? (i := 14) (by decide +kernel))) (by decide +kernel)), (lw_all_mem (List.mem_append_right _ (List.mem_of_getElem? (i := 1900) (by decide +kernel))) (by decide +kernel)), ⟨by decide +kernel, by decide +kernel, by decide +kernel⟩, by decide +kernel⟩
theorem lk0_X12_resistance : LK0 M_X12_resistance 2 := ⟨(lw_all_mem (List.mem_append_right _ (List.mem_of_getElem? (i := 14) (by decide +kernel))) (by decide +kernel)), (lw_all_mem (List.mem_append_right _ (List.mem_of_getElem? (i := 1821) (by decide +kernel))) (by decide +kernel)), ⟨by decide +kernel, by decide +kernel, by decide +kernel⟩, by decide +kernel⟩
theorem lk0_X12_restoreSnapshot : LK0 M_X12_restoreSnapshot 1 := ⟨(lw_all_mem (List.mem_append_right _ (List.mem_of_getElem? (i := 14) (by decide +kernel))) (by decide +kernel)), (lw_all_mem (List.mem_append_right _ (List.mem_of_getElem? (i := 1961) (by decide +kernel))) (by decide +kernel)), ⟨by decide +kernel, by decide +kernel, by decide +kernel⟩, by decide +kernel⟩
theorem lk0_X12_saveSnapshot : LK0 M_X12_saveSnapshot 1 := ⟨(lw_all_mem (List.mem_append_right _ (List.mem_of_getElem? (i := 14) (by decide +kernel))) (by decide +kernel)), (lw_all_mem (List.mem_append_right _ (List.mem_of_getElem? (i := 1957) (by decide +kernel))) (by decide +kernel)), ⟨by decide +kernel, by decide +kernel, by decide +kernel⟩, by decide +kernel⟩
theorem lk0_X12_setTurn : LK0 M_X12_setTurn 1 := ⟨(lw_all_mem (List.mem_append_right _ (List.mem_of_getElem? (i := 14) (by decide +kernel))) (by decide +kernel)), (lw_all_mem (List.mem_append_right _ (List.mem_of_getElem? (i := 1905) (by decide +kernel))) (by decide +kernel)), ⟨by decide +kernel, by decide +kernel, by decide +kernel⟩, by decide +kernel⟩
theorem lk0_X12_shared : LK0 M_X12_shared 0 := ⟨(lw_all_mem (List.mem_append_right _ (List.mem_of_getElem? (i := 14) (by decide +kernel))) (by decide +kernel)), (lw_all_mem (List.mem_append_right _ (List.mem_of_getElem? (i := 1787) (by decide +kernel))) (by decide +kernel)), ⟨by decide +kernel, by decide +kernel, by decide +kernel⟩, by decide +kernel⟩
theorem lk0_X12_size : LK0 M_X12_size 1 := ⟨(lw_all_mem (List.mem_append_right _ (List.mem_of_getElem? (i := 14) (by decide +kernel))) (by decide +kernel)), (lw_all_mem (List.mem_append_right _ (List.mem_of_getElem? (i := 1584) (by decide +kernel))) (by decide +kernel)), ⟨by decide +kernel, by decide +kernel, by decide +kernel⟩, by decide +kernel⟩
theorem lk0_X12_solved : LK0 M_X12_solved 0 := ⟨(lw_all_mem (List.mem_append_right _ (List.mem_of_getElem? (i := 14) (by decide +kernel))) (by decide +kernel)), (lw_all_mem (List.mem_append_right _ (List.mem_of_getElem? (i := 1831) (by decide +kernel))) (by decide +kernel)), ⟨by decide +kernel, by decide +kernel, by decide +kernel⟩, by decide +kernel⟩
theorem lk0_X12_swap : LK0 M_X12_swap 0 := ⟨(lw_all_mem (List.mem_append_right _ (List.mem_of_getElem? (i := 14) (by decide +kernel))) (by decide +kernel)), (lw_all_mem (List.mem_append_right _ (List.mem_of_getElem? (i := 1888) (by decide +kernel))) (by decide +kernel)), ⟨by decide +kernel, by decide +kernel, by decide +kernel⟩, by decide +kernel⟩
theorem lk0_X12_threat : LK0 M_X12_threat 2 := ⟨(lw_all_mem (List.mem_append_right _ (List.mem_of_getElem? (i := 14) (by decide +kernel))) (by decide +kernel)), (lw_all_mem (List.mem_append_right _ (List.mem_of_getElem? (i := 1735) (by decide +kernel))) (by decide +kernel)), ⟨by decide +kernel, by decide +kernel, by decide +kernel⟩, by decide +kernel⟩
theorem lk0_X12_threats : LK0 M_X12_threats 1 := ⟨(lw_all_mem (List.mem_append_right _ (List.mem_of_getElem? (i := 14) (by decide +kernel))) (by decide +kernel)), (lw_all_mem (List.mem_append_right _ (List.mem_of_getElem? (i := 1727) (by decide +kernel))) (by decide +kernel)), ⟨by decide +kernel, by decide +kernel, by decide +kernel⟩, by decide +kernel⟩
theorem lk0_X12_through : LK0 M_X12_through 2 := ⟨(lw_all_mem (List.mem_append_right _ (List.mem_of_getElem? (i := 14) (by decide +kernel))) (by decide +kernel)), (lw_all_mem (List.mem_append_right _ (List.mem_of_getElem? (i := 1779) (by decide +kernel))) (by decide +kernel)), ⟨by decide +kernel, by decide +kernel, by decide +kernel⟩, by decide +kernel⟩
theorem lk0_X12_thrown : LK0 M_X12_thrown 0 := ⟨(lw_all_mem (List.mem_append_right _ (List.mem_of_getElem? (i := 14) (by decide +kernel))) (by decide +kernel)), (lw_all_mem (List.mem_append_right _ (List.mem_of_getElem? (i := 1417) (by decide +kernel))) (by decide +kernel)), ⟨by decide +kernel, by decide +kernel, by decide +kernel⟩, by decide +kernel⟩
theorem lk0_X12_turnOver : LK0 M_X12_turnOver 0 := ⟨(lw_all_mem (List.mem_append_right _ (List.mem_of_getElem? (i := 14) (by decide +kernel))) (by decide +kernel)), (lw_all_mem (List.mem_append_right _ (List.mem_of_getElem? (i := 1909) (by decide +kernel))) (by decide +kernel)), ⟨by decide +kernel, by decide +kernel, by decide +kernel⟩, by decide +kernel⟩
theorem lk0_X12_undo : LK0 M_X12_undo 0 := ⟨(lw_all_mem (List.mem_append_right _ (List.mem_of_getElem? (i := 14) (by decide +kernel))) (by decide +kernel)), (lw_all_mem (List.mem_append_right _ (List.mem_of_getElem? (i := 1953) (by decide +kernel))) (by decide +kernel)), ⟨by decide +kernel, by decide +kernel, by decide +kernel⟩, by decide +kernel⟩
theorem lk0_X12_useful : LK0 M_X12_useful 1 := ⟨(lw_all_mem (List.mem_append_right _ (List.mem_of_getElem? (i := 14) (by decide +kernel))) (by decide +kernel)), (lw_all_mem (List.mem_append_right _ (List.mem_of_getElem? (i := 1783) (by decide +kernel))) (by decide +kernel)), ⟨by decide +kernel, by decide +kernel, by decide +kernel⟩, by decide +kernel⟩
theorem lk0_X12_writeCell : LK0 M_X12_writeCell 1 := ⟨(lw_all_mem (List.mem_append_right _ (List.mem_of_getElem? (i := 14) (by decide +kernel))) (by decide +kernel)), (lw_all_mem (List.mem_append_right _ (List.mem_of_getElem? (i := 1945) (by decide +kernel))) (by decide +kernel)), ⟨by decide +kernel, by decide +kernel, by decide +kernel⟩, by decide +kernel⟩
theorem lk0_X12_writeRow : LK0 M_X12_writeRow 1 := ⟨(lw_all_mem (List.mem_append_right _ (List.mem_of_getElem? (i := 14) (by decide +kernel))) (by decide +kernel)), (lw_all_mem (List.mem_append_right _ (List.mem_of_getElem? (i := 1937) (by decide +kernel))) (by decide +kernel)), ⟨by decide +kernel, by decide +kernel, by decide +kernel⟩, by decide +kernel⟩
theorem csL_124 {M : Mk} (h : (mY M).cls = RL) : Cond.constantLong (mY M).cls 124 (Int64.ofInt 4294967295) ∈ lw_all := by rw [h]; exact (lw_all_mem (List.mem_append_right _ (List.mem_of_getElem? (i := 1962) (by decide +kernel))) (by decide +kernel))
theorem lkL_102 (M : Mk) (h : (mY M).cls = RL) : LKV M M_X11_setTurn 102 1 := ⟨lk0_X11_setTurn, by rw [h]; exact (lw_all_mem (List.mem_append_right _ (List.mem_of_getElem? (i := 1247) (by decide +kernel))) (by decide +kernel)), (lw_all_mem (List.mem_append_right _ (List.mem_of_getElem? (i := 1248) (by decide +kernel))) (by decide +kernel)), (lw_all_mem (List.mem_append_right _ (List.mem_of_getElem? (i := 1249) (by decide +kernel))) (by decide +kernel))⟩
theorem lkL_105 (M : Mk) (h : (mY M).cls = RL) : LKV M M_X11_playForced 105 1 := ⟨lk0_X11_playForced, by rw [h]; exact (lw_all_mem (List.mem_append_right _ (List.mem_of_getElem? (i := 1254) (by decide +kernel))) (by decide +kernel)), (lw_all_mem (List.mem_append_right _ (List.mem_of_getElem? (i := 1255) (by decide +kernel))) (by decide +kernel)), (lw_all_mem (List.mem_append_right _ (List.mem_of_getElem? (i := 1256) (by decide +kernel))) (by decide +kernel))⟩
theorem lkL_108 (M : Mk) (h : (mY M).cls = RL) : LKV M M_X11_writeRow 108 1 := ⟨lk0_X11_writeRow, by rw [h]; exact (lw_all_mem (List.mem_append_right _ (List.mem_of_getElem? (i := 1261) (by decide +kernel))) (by decide +kernel)), (lw_all_mem (List.mem_append_right _ (List.mem_of_getElem? (i := 1262) (by decide +kernel))) (by decide +kernel)), (lw_all_mem (List.mem_append_right _ (List.mem_of_getElem? (i := 1263) (by decide +kernel))) (by decide +kernel))⟩
theorem lkL_111 (M : Mk) (h : (mY M).cls = RL) : LKV M M_X11_writeCell 111 1 := ⟨lk0_X11_writeCell, by rw [h]; exact (lw_all_mem (List.mem_append_right _ (List.mem_of_getElem? (i := 1270) (by decide +kernel))) (by decide +kernel)), (lw_all_mem (List.mem_append_right _ (List.mem_of_getElem? (i := 1271) (by decide +kernel))) (by decide +kernel)), (lw_all_mem (List.mem_append_right _ (List.mem_of_getElem? (i := 1272) (by decide +kernel))) (by decide +kernel))⟩
theorem lkL_114 (M : Mk) (h : (mY M).cls = RL) : LKV M M_X11_saveSnapshot 114 1 := ⟨lk0_X11_saveSnapshot, by rw [h]; exact (lw_all_mem (List.mem_append_right _ (List.mem_of_getElem? (i := 1279) (by decide +kernel))) (by decide +kernel)), (lw_all_mem (List.mem_append_right _ (List.mem_of_getElem? (i := 1280) (by decide +kernel))) (by decide +kernel)), (lw_all_mem (List.mem_append_right _ (List.mem_of_getElem? (i := 1281) (by decide +kernel))) (by decide +kernel))⟩
theorem lkL_117 (M : Mk) (h : (mY M).cls = RL) : LKV M M_X11_restoreSnapshot 117 1 := ⟨lk0_X11_restoreSnapshot, by rw [h]; exact (lw_all_mem (List.mem_append_right _ (List.mem_of_getElem? (i := 1286) (by decide +kernel))) (by decide +kernel)), (lw_all_mem (List.mem_append_right _ (List.mem_of_getElem? (i := 1287) (by decide +kernel))) (by decide +kernel)), (lw_all_mem (List.mem_append_right _ (List.mem_of_getElem? (i := 1288) (by decide +kernel))) (by decide +kernel))⟩
theorem lkL_126 (M : Mk) (h : (mY M).cls = RL) : LKV M M_X11_append 126 1 := ⟨lk0_X11_append, by rw [h]; exact (lw_all_mem (List.mem_append_right _ (List.mem_of_getElem? (i := 411) (by decide +kernel))) (by decide +kernel)), (lw_all_mem (List.mem_append_right _ (List.mem_of_getElem? (i := 412) (by decide +kernel))) (by decide +kernel)), (lw_all_mem (List.mem_append_right _ (List.mem_of_getElem? (i := 413) (by decide +kernel))) (by decide +kernel))⟩
theorem lkL_130 (M : Mk) (h : (mY M).cls = RL) : LKV M M_X12_append 130 1 := ⟨lk0_X12_append, by rw [h]; exact (lw_all_mem (List.mem_append_right _ (List.mem_of_getElem? (i := 1418) (by decide +kernel))) (by decide +kernel)), (lw_all_mem (List.mem_append_right _ (List.mem_of_getElem? (i := 1419) (by decide +kernel))) (by decide +kernel)), (lw_all_mem (List.mem_append_right _ (List.mem_of_getElem? (i := 1420) (by decide +kernel))) (by decide +kernel))⟩
theorem lkL_131 (M : Mk) (h : (mY M).cls = RL) : LKV M M_X11_load 131 0 := ⟨lk0_X11_load, by rw [h]; exact (lw_all_mem (List.mem_append_right _ (List.mem_of_getElem? (i := 420) (by decide +kernel))) (by decide +kernel)), (lw_all_mem (List.mem_append_right _ (List.mem_of_getElem? (i := 421) (by decide +kernel))) (by decide +kernel)), (lw_all_mem (List.mem_append_right _ (List.mem_of_getElem? (i := 422) (by decide +kernel))) (by decide +kernel))⟩
theorem lkL_135 (M : Mk) (h : (mY M).cls = RL) : LKV M M_X12_load 135 0 := ⟨lk0_X12_load, by rw [h]; exact (lw_all_mem (List.mem_append_right _ (List.mem_of_getElem? (i := 1423) (by decide +kernel))) (by decide +kernel)), (lw_all_mem (List.mem_append_right _ (List.mem_of_getElem? (i := 1424) (by decide +kernel))) (by decide +kernel)), (lw_all_mem (List.mem_append_right _ (List.mem_of_getElem? (i := 1425) (by decide +kernel))) (by decide +kernel))⟩
theorem lkL_136 (M : Mk) (h : (mY M).cls = RL) : LKV M M_X11_loadError 136 0 := ⟨lk0_X11_loadError, by rw [h]; exact (lw_all_mem (List.mem_append_right _ (List.mem_of_getElem? (i := 602) (by decide +kernel))) (by decide +kernel)), (lw_all_mem (List.mem_append_right _ (List.mem_of_getElem? (i := 603) (by decide +kernel))) (by decide +kernel)), (lw_all_mem (List.mem_append_right _ (List.mem_of_getElem? (i := 604) (by decide +kernel))) (by decide +kernel))⟩
theorem lkL_139 (M : Mk) (h : (mY M).cls = RL) : LKV M M_X12_loadError 139 0 := ⟨lk0_X12_loadError, by rw [h]; exact (lw_all_mem (List.mem_append_right _ (List.mem_of_getElem? (i := 1573) (by decide +kernel))) (by decide +kernel)), (lw_all_mem (List.mem_append_right _ (List.mem_of_getElem? (i := 1574) (by decide +kernel))) (by decide +kernel)), (lw_all_mem (List.mem_append_right _ (List.mem_of_getElem? (i := 1575) (by decide +kernel))) (by decide +kernel))⟩
theorem lkL_140 (M : Mk) (h : (mY M).cls = RL) : LKV M M_X11_loadStatement 140 0 := ⟨lk0_X11_loadStatement, by rw [h]; exact (lw_all_mem (List.mem_append_right _ (List.mem_of_getElem? (i := 606) (by decide +kernel))) (by decide +kernel)), (lw_all_mem (List.mem_append_right _ (List.mem_of_getElem? (i := 607) (by decide +kernel))) (by decide +kernel)), (lw_all_mem (List.mem_append_right _ (List.mem_of_getElem? (i := 608) (by decide +kernel))) (by decide +kernel))⟩
theorem lkL_143 (M : Mk) (h : (mY M).cls = RL) : LKV M M_X12_loadStatement 143 0 := ⟨lk0_X12_loadStatement, by rw [h]; exact (lw_all_mem (List.mem_append_right _ (List.mem_of_getElem? (i := 1577) (by decide +kernel))) (by decide +kernel)), (lw_all_mem (List.mem_append_right _ (List.mem_of_getElem? (i := 1578) (by decide +kernel))) (by decide +kernel)), (lw_all_mem (List.mem_append_right _ (List.mem_of_getElem? (i := 1579) (by decide +kernel))) (by decide +kernel))⟩
theorem lkL_144 (M : Mk) (h : (mY M).cls = RL) : LKH M M_L_size 144 3 := ⟨lk0_L_size, by rw [h]; exact (lw_all_mem (List.mem_append_right _ (List.mem_of_getElem? (i := 841) (by decide +kernel))) (by decide +kernel)), (lw_all_mem (List.mem_append_right _ (List.mem_of_getElem? (i := 842) (by decide +kernel))) (by decide +kernel))⟩
theorem lkL_149 (M : Mk) (h : (mY M).cls = RL) : LKV M M_X12_size 149 1 := ⟨lk0_X12_size, by rw [h]; exact (lw_all_mem (List.mem_append_right _ (List.mem_of_getElem? (i := 1581) (by decide +kernel))) (by decide +kernel)), (lw_all_mem (List.mem_append_right _ (List.mem_of_getElem? (i := 1582) (by decide +kernel))) (by decide +kernel)), (lw_all_mem (List.mem_append_right _ (List.mem_of_getElem? (i := 1583) (by decide +kernel))) (by decide +kernel))⟩
theorem lkL_15 (M : Mk) (h : (mY M).cls = RL) : LKV M M_X11_cell 15 1 := ⟨lk0_X11_cell, by rw [h]; exact (lw_all_mem (List.mem_append_right _ (List.mem_of_getElem? (i := 919) (by decide +kernel))) (by decide +kernel)), (lw_all_mem (List.mem_append_right _ (List.mem_of_getElem? (i := 920) (by decide +kernel))) (by decide +kernel)), (lw_all_mem (List.mem_append_right _ (List.mem_of_getElem? (i := 921) (by decide +kernel))) (by decide +kernel))⟩
theorem lkL_150 (M : Mk) (h : (mY M).cls = RL) : LKV M M_X12_thrown 150 0 := ⟨lk0_X12_thrown, by rw [h]; exact (lw_all_mem (List.mem_append_right _ (List.mem_of_getElem? (i := 1414) (by decide +kernel))) (by decide +kernel)), (lw_all_mem (List.mem_append_right _ (List.mem_of_getElem? (i := 1415) (by decide +kernel))) (by decide +kernel)), (lw_all_mem (List.mem_append_right _ (List.mem_of_getElem? (i := 1416) (by decide +kernel))) (by decide +kernel))⟩
theorem lkL_153 (M : Mk) (h : (mY M).cls = RL) : LKH M M_L_cell 153 3 := ⟨lk0_L_cell, by rw [h]; exact (lw_all_mem (List.mem_append_right _ (List.mem_of_getElem? (i := 915) (by decide +kernel))) (by decide +kernel)), (lw_all_mem (List.mem_append_right _ (List.mem_of_getElem? (i := 916) (by decide +kernel))) (by decide +kernel))⟩
theorem lkL_155 (M : Mk) (h : (mY M).cls = RL) : LKV M M_X12_cell 155 1 := ⟨lk0_X12_cell, by rw [h]; exact (lw_all_mem (List.mem_append_right _ (List.mem_of_getElem? (i := 1598) (by decide +kernel))) (by decide +kernel)), (lw_all_mem (List.mem_append_right _ (List.mem_of_getElem? (i := 1599) (by decide +kernel))) (by decide +kernel)), (lw_all_mem (List.mem_append_right _ (List.mem_of_getElem? (i := 1600) (by decide +kernel))) (by decide +kernel))⟩
theorem lkL_156 (M : Mk) (h : (mY M).cls = RL) : LKH M M_L_neighbour 156 4 := ⟨lk0_L_neighbour, by rw [h]; exact (lw_all_mem (List.mem_append_right _ (List.mem_of_getElem? (i := 943) (by decide +kernel))) (by decide +kernel)), (lw_all_mem (List.mem_append_right _ (List.mem_of_getElem? (i := 944) (by decide +kernel))) (by decide +kernel))⟩
theorem lkL_159 (M : Mk) (h : (mY M).cls = RL) : LKV M M_X12_neighbour 159 2 := ⟨lk0_X12_neighbour, by rw [h]; exact (lw_all_mem (List.mem_append_right _ (List.mem_of_getElem? (i := 1610) (by decide +kernel))) (by decide +kernel)), (lw_all_mem (List.mem_append_right _ (List.mem_of_getElem? (i := 1611) (by decide +kernel))) (by decide +kernel)), (lw_all_mem (List.mem_append_right _ (List.mem_of_getElem? (i := 1612) (by decide +kernel))) (by decide +kernel))⟩
theorem lkL_160 (M : Mk) (h : (mY M).cls = RL) : LKH M M_L_group 160 4 := ⟨lk0_L_group, by rw [h]; exact (lw_all_mem (List.mem_append_right _ (List.mem_of_getElem? (i := 951) (by decide +kernel))) (by decide +kernel)), (lw_all_mem (List.mem_append_right _ (List.mem_of_getElem? (i := 952) (by decide +kernel))) (by decide +kernel))⟩
theorem lkL_162 (M : Mk) (h : (mY M).cls = RL) : LKV M M_X12_group 162 2 := ⟨lk0_X12_group, by rw [h]; exact (lw_all_mem (List.mem_append_right _ (List.mem_of_getElem? (i := 1614) (by decide +kernel))) (by decide +kernel)), (lw_all_mem (List.mem_append_right _ (List.mem_of_getElem? (i := 1615) (by decide +kernel))) (by decide +kernel)), (lw_all_mem (List.mem_append_right _ (List.mem_of_getElem? (i := 1616) (by decide +kernel))) (by decide +kernel))⟩
theorem lkL_163 (M : Mk) (h : (mY M).cls = RL) : LKH M M_L_groups 163 3 := ⟨lk0_L_groups, by rw [h]; exact (lw_all_mem (List.mem_append_right _ (List.mem_of_getElem? (i := 975) (by decide +kernel))) (by decide +kernel)), (lw_all_mem (List.mem_append_right _ (List.mem_of_getElem? (i := 976) (by decide +kernel))) (by decide +kernel))⟩
theorem lkL_165 (M : Mk) (h : (mY M).cls = RL) : LKV M M_X12_groups 165 1 := ⟨lk0_X12_groups, by rw [h]; exact (lw_all_mem (List.mem_append_right _ (List.mem_of_getElem? (i := 1631) (by decide +kernel))) (by decide +kernel)), (lw_all_mem (List.mem_append_right _ (List.mem_of_getElem? (i := 1632) (by decide +kernel))) (by decide +kernel)), (lw_all_mem (List.mem_append_right _ (List.mem_of_getElem? (i := 1633) (by decide +kernel))) (by decide +kernel))⟩
theorem lkL_166 (M : Mk) (h : (mY M).cls = RL) : LKH M M_L_largest 166 3 := ⟨lk0_L_largest, by rw [h]; exact (lw_all_mem (List.mem_append_right _ (List.mem_of_getElem? (i := 990) (by decide +kernel))) (by decide +kernel)), (lw_all_mem (List.mem_append_right _ (List.mem_of_getElem? (i := 991) (by decide +kernel))) (by decide +kernel))⟩
theorem lkL_168 (M : Mk) (h : (mY M).cls = RL) : LKV M M_X12_largest 168 1 := ⟨lk0_X12_largest, by rw [h]; exact (lw_all_mem (List.mem_append_right _ (List.mem_of_getElem? (i := 1642) (by decide +kernel))) (by decide +kernel)), (lw_all_mem (List.mem_append_right _ (List.mem_of_getElem? (i := 1643) (by decide +kernel))) (by decide +kernel)), (lw_all_mem (List.mem_append_right _ (List.mem_of_getElem? (i := 1644) (by decide +kernel))) (by decide +kernel))⟩
theorem lkL_169 (M : Mk) (h : (mY M).cls = RL) : LKH M M_L_isBridge 169 4 := ⟨lk0_L_isBridge, by rw [h]; exact (lw_all_mem (List.mem_append_right _ (List.mem_of_getElem? (i := 1001) (by decide +kernel))) (by decide +kernel)), (lw_all_mem (List.mem_append_right _ (List.mem_of_getElem? (i := 1002) (by decide +kernel))) (by decide +kernel))⟩
theorem lkL_171 (M : Mk) (h : (mY M).cls = RL) : LKV M M_X12_isBridge 171 2 := ⟨lk0_X12_isBridge, by rw [h]; exact (lw_all_mem (List.mem_append_right _ (List.mem_of_getElem? (i := 1646) (by decide +kernel))) (by decide +kernel)), (lw_all_mem (List.mem_append_right _ (List.mem_of_getElem? (i := 1647) (by decide +kernel))) (by decide +kernel)), (lw_all_mem (List.mem_append_right _ (List.mem_of_getElem? (i := 1648) (by decide +kernel))) (by decide +kernel))⟩
theorem lkL_172 (M : Mk) (h : (mY M).cls = RL) : LKH M M_L_bridges 172 4 := ⟨lk0_L_bridges, by rw [h]; exact (lw_all_mem (List.mem_append_right _ (List.mem_of_getElem? (i := 1014) (by decide +kernel))) (by decide +kernel)), (lw_all_mem (List.mem_append_right _ (List.mem_of_getElem? (i := 1015) (by decide +kernel))) (by decide +kernel))⟩
theorem lkL_175 (M : Mk) (h : (mY M).cls = RL) : LKV M M_X12_bridges 175 2 := ⟨lk0_X12_bridges, by rw [h]; exact (lw_all_mem (List.mem_append_right _ (List.mem_of_getElem? (i := 1666) (by decide +kernel))) (by decide +kernel)), (lw_all_mem (List.mem_append_right _ (List.mem_of_getElem? (i := 1667) (by decide +kernel))) (by decide +kernel)), (lw_all_mem (List.mem_append_right _ (List.mem_of_getElem? (i := 1668) (by decide +kernel))) (by decide +kernel))⟩
theorem lkL_176 (M : Mk) (h : (mY M).cls = RL) : LKH M M_L_bridge 176 5 := ⟨lk0_L_bridge, by rw [h]; exact (lw_all_mem (List.mem_append_right _ (List.mem_of_getElem? (i := 1025) (by decide +kernel))) (by decide +kernel)), (lw_all_mem (List.mem_append_right _ (List.mem_of_getElem? (i := 1026) (by decide +kernel))) (by decide +kernel))⟩
theorem lkL_179 (M : Mk) (h : (mY M).cls = RL) : LKV M M_X12_bridge 179 3 := ⟨lk0_X12_bridge, by rw [h]; exact (lw_all_mem (List.mem_append_right _ (List.mem_of_getElem? (i := 1683) (by decide +kernel))) (by decide +kernel)), (lw_all_mem (List.mem_append_right _ (List.mem_of_getElem? (i := 1684) (by decide +kernel))) (by decide +kernel)), (lw_all_mem (List.mem_append_right _ (List.mem_of_getElem? (i := 1685) (by decide +kernel))) (by decide +kernel))⟩
theorem lkL_180 (M : Mk) (h : (mY M).cls = RL) : LKH M M_L_chain 180 4 := ⟨lk0_L_chain, by rw [h]; exact (lw_all_mem (List.mem_append_right _ (List.mem_of_getElem? (i := 1036) (by decide +kernel))) (by decide +kernel)), (lw_all_mem (List.mem_append_right _ (List.mem_of_getElem? (i := 1037) (by decide +kernel))) (by decide +kernel))⟩
theorem lkL_182 (M : Mk) (h : (mY M).cls = RL) : LKV M M_X12_chain 182 2 := ⟨lk0_X12_chain, by rw [h]; exact (lw_all_mem (List.mem_append_right _ (List.mem_of_getElem? (i := 1688) (by decide +kernel))) (by decide +kernel)), (lw_all_mem (List.mem_append_right _ (List.mem_of_getElem? (i := 1689) (by decide +kernel))) (by decide +kernel)), (lw_all_mem (List.mem_append_right _ (List.mem_of_getElem? (i := 1690) (by decide +kernel))) (by decide +kernel))⟩
theorem lkL_183 (M : Mk) (h : (mY M).cls = RL) : LKH M M_L_chains 183 3 := ⟨lk0_L_chains, by rw [h]; exact (lw_all_mem (List.mem_append_right _ (List.mem_of_getElem? (i := 1066) (by decide +kernel))) (by decide +kernel)), (lw_all_mem (List.mem_append_right _ (List.mem_of_getElem? (i := 1067) (by decide +kernel))) (by decide +kernel))⟩
theorem lkL_185 (M : Mk) (h : (mY M).cls = RL) : LKV M M_X12_chains 185 1 := ⟨lk0_X12_chains, by rw [h]; exact (lw_all_mem (List.mem_append_right _ (List.mem_of_getElem? (i := 1708) (by decide +kernel))) (by decide +kernel)), (lw_all_mem (List.mem_append_right _ (List.mem_of_getElem? (i := 1709) (by decide +kernel))) (by decide +kernel)), (lw_all_mem (List.mem_append_right _ (List.mem_of_getElem? (i := 1710) (by decide +kernel))) (by decide +kernel))⟩
theorem lkL_186 (M : Mk) (h : (mY M).cls = RL) : LKH M M_L_isSafe 186 3 := ⟨lk0_L_isSafe, by rw [h]; exact (lw_all_mem (List.mem_append_right _ (List.mem_of_getElem? (i := 1073) (by decide +kernel))) (by decide +kernel)), (lw_all_mem (List.mem_append_right _ (List.mem_of_getElem? (i := 1074) (by decide +kernel))) (by decide +kernel))⟩
theorem lkL_188 (M : Mk) (h : (mY M).cls = RL) : LKV M M_X12_isSafe 188 1 := ⟨lk0_X12_isSafe, by rw [h]; exact (lw_all_mem (List.mem_append_right _ (List.mem_of_getElem? (i := 1712) (by decide +kernel))) (by decide +kernel)), (lw_all_mem (List.mem_append_right _ (List.mem_of_getElem? (i := 1713) (by decide +kernel))) (by decide +kernel)), (lw_all_mem (List.mem_append_right _ (List.mem_of_getElem? (i := 1714) (by decide +kernel))) (by decide +kernel))⟩
theorem lkL_189 (M : Mk) (h : (mY M).cls = RL) : LKH M M_L_answer 189 3 := ⟨lk0_L_answer, by rw [h]; exact (lw_all_mem (List.mem_append_right _ (List.mem_of_getElem? (i := 1080) (by decide +kernel))) (by decide +kernel)), (lw_all_mem (List.mem_append_right _ (List.mem_of_getElem? (i := 1081) (by decide +kernel))) (by decide +kernel))⟩
theorem lkL_191 (M : Mk) (h : (mY M).cls = RL) : LKV M M_X12_answer 191 1 := ⟨lk0_X12_answer, by rw [h]; exact (lw_all_mem (List.mem_append_right _ (List.mem_of_getElem? (i := 1716) (by decide +kernel))) (by decide +kernel)), (lw_all_mem (List.mem_append_right _ (List.mem_of_getElem? (i := 1717) (by decide +kernel))) (by decide +kernel)), (lw_all_mem (List.mem_append_right _ (List.mem_of_getElem? (i := 1718) (by decide +kernel))) (by decide +kernel))⟩
theorem lkL_192 (M : Mk) (h : (mY M).cls = RL) : LKH M M_L_threats 192 3 := ⟨lk0_L_threats, by rw [h]; exact (lw_all_mem (List.mem_append_right _ (List.mem_of_getElem? (i := 1087) (by decide +kernel))) (by decide +kernel)), (lw_all_mem (List.mem_append_right _ (List.mem_of_getElem? (i := 1088) (by decide +kernel))) (by decide +kernel))⟩
theorem lkL_194 (M : Mk) (h : (mY M).cls = RL) : LKV M M_X12_threats 194 1 := ⟨lk0_X12_threats, by rw [h]; exact (lw_all_mem (List.mem_append_right _ (List.mem_of_getElem? (i := 1724) (by decide +kernel))) (by decide +kernel)), (lw_all_mem (List.mem_append_right _ (List.mem_of_getElem? (i := 1725) (by decide +kernel))) (by decide +kernel)), (lw_all_mem (List.mem_append_right _ (List.mem_of_getElem? (i := 1726) (by decide +kernel))) (by decide +kernel))⟩
theorem lkL_195 (M : Mk) (h : (mY M).cls = RL) : LKH M M_L_threat 195 4 := ⟨lk0_L_threat, by rw [h]; exact (lw_all_mem (List.mem_append_right _ (List.mem_of_getElem? (i := 1094) (by decide +kernel))) (by decide +kernel)), (lw_all_mem (List.mem_append_right _ (List.mem_of_getElem? (i := 1095) (by decide +kernel))) (by decide +kernel))⟩
theorem lkL_197 (M : Mk) (h : (mY M).cls = RL) : LKV M M_X12_threat 197 2 := ⟨lk0_X12_threat, by rw [h]; exact (lw_all_mem (List.mem_append_right _ (List.mem_of_getElem? (i := 1732) (by decide +kernel))) (by decide +kernel)), (lw_all_mem (List.mem_append_right _ (List.mem_of_getElem? (i := 1733) (by decide +kernel))) (by decide +kernel)), (lw_all_mem (List.mem_append_right _ (List.mem_of_getElem? (i := 1734) (by decide +kernel))) (by decide +kernel))⟩
theorem lkL_198 (M : Mk) (h : (mY M).cls = RL) : LKV M M_X11_forced 198 0 := ⟨lk0_X11_forced, by rw [h]; exact (lw_all_mem (List.mem_append_right _ (List.mem_of_getElem? (i := 610) (by decide +kernel))) (by decide +kernel)), (lw_all_mem (List.mem_append_right _ (List.mem_of_getElem? (i := 611) (by decide +kernel))) (by decide +kernel)), (lw_all_mem (List.mem_append_right _ (List.mem_of_getElem? (i := 612) (by decide +kernel))) (by decide +kernel))⟩
theorem lkL_20 (M : Mk) (h : (mY M).cls = RL) : LKV M M_X11_neighbour 20 2 := ⟨lk0_X11_neighbour, by rw [h]; exact (lw_all_mem (List.mem_append_right _ (List.mem_of_getElem? (i := 946) (by decide +kernel))) (by decide +kernel)), (lw_all_mem (List.mem_append_right _ (List.mem_of_getElem? (i := 947) (by decide +kernel))) (by decide +kernel)), (lw_all_mem (List.mem_append_right _ (List.mem_of_getElem? (i := 948) (by decide +kernel))) (by decide +kernel))⟩
theorem lkL_201 (M : Mk) (h : (mY M).cls = RL) : LKV M M_X12_forced 201 0 := ⟨lk0_X12_forced, by rw [h]; exact (lw_all_mem (List.mem_append_right _ (List.mem_of_getElem? (i := 1740) (by decide +kernel))) (by decide +kernel)), (lw_all_mem (List.mem_append_right _ (List.mem_of_getElem? (i := 1741) (by decide +kernel))) (by decide +kernel)), (lw_all_mem (List.mem_append_right _ (List.mem_of_getElem? (i := 1742) (by decide +kernel))) (by decide +kernel))⟩
theorem lkL_202 (M : Mk) (h : (mY M).cls = RL) : LKH M M_L_distance 202 3 := ⟨lk0_L_distance, by rw [h]; exact (lw_all_mem (List.mem_append_right _ (List.mem_of_getElem? (i := 1101) (by decide +kernel))) (by decide +kernel)), (lw_all_mem (List.mem_append_right _ (List.mem_of_getElem? (i := 1102) (by decide +kernel))) (by decide +kernel))⟩
theorem lkL_204 (M : Mk) (h : (mY M).cls = RL) : LKV M M_X12_distance 204 1 := ⟨lk0_X12_distance, by rw [h]; exact (lw_all_mem (List.mem_append_right _ (List.mem_of_getElem? (i := 1752) (by decide +kernel))) (by decide +kernel)), (lw_all_mem (List.mem_append_right _ (List.mem_of_getElem? (i := 1753) (by decide +kernel))) (by decide +kernel)), (lw_all_mem (List.mem_append_right _ (List.mem_of_getElem? (i := 1754) (by decide +kernel))) (by decide +kernel))⟩
theorem lkL_205 (M : Mk) (h : (mY M).cls = RL) : LKH M M_L_through 205 4 := ⟨lk0_L_through, by rw [h]; exact (lw_all_mem (List.mem_append_right _ (List.mem_of_getElem? (i := 1113) (by decide +kernel))) (by decide +kernel)), (lw_all_mem (List.mem_append_right _ (List.mem_of_getElem? (i := 1114) (by decide +kernel))) (by decide +kernel))⟩
theorem lkL_207 (M : Mk) (h : (mY M).cls = RL) : LKV M M_X12_through 207 2 := ⟨lk0_X12_through, by rw [h]; exact (lw_all_mem (List.mem_append_right _ (List.mem_of_getElem? (i := 1776) (by decide +kernel))) (by decide +kernel)), (lw_all_mem (List.mem_append_right _ (List.mem_of_getElem? (i := 1777) (by decide +kernel))) (by decide +kernel)), (lw_all_mem (List.mem_append_right _ (List.mem_of_getElem? (i := 1778) (by decide +kernel))) (by decide +kernel))⟩
theorem lkL_208 (M : Mk) (h : (mY M).cls = RL) : LKH M M_L_useful 208 3 := ⟨lk0_L_useful, by rw [h]; exact (lw_all_mem (List.mem_append_right _ (List.mem_of_getElem? (i := 1120) (by decide +kernel))) (by decide +kernel)), (lw_all_mem (List.mem_append_right _ (List.mem_of_getElem? (i := 1121) (by decide +kernel))) (by decide +kernel))⟩
theorem lkL_210 (M : Mk) (h : (mY M).cls = RL) : LKV M M_X12_useful 210 1 := ⟨lk0_X12_useful, by rw [h]; exact (lw_all_mem (List.mem_append_right _ (List.mem_of_getElem? (i := 1780) (by decide +kernel))) (by decide +kernel)), (lw_all_mem (List.mem_append_right _ (List.mem_of_getElem? (i := 1781) (by decide +kernel))) (by decide +kernel)), (lw_all_mem (List.mem_append_right _ (List.mem_of_getElem? (i := 1782) (by decide +kernel))) (by decide +kernel))⟩
theorem lkL_211 (M : Mk) (h : (mY M).cls = RL) : LKV M M_X11_shared 211 0 := ⟨lk0_X11_shared, by rw [h]; exact (lw_all_mem (List.mem_append_right _ (List.mem_of_getElem? (i := 687) (by decide +kernel))) (by decide +kernel)), (lw_all_mem (List.mem_append_right _ (List.mem_of_getElem? (i := 688) (by decide +kernel))) (by decide +kernel)), (lw_all_mem (List.mem_append_right _ (List.mem_of_getElem? (i := 689) (by decide +kernel))) (by decide +kernel))⟩
theorem lkL_214 (M : Mk) (h : (mY M).cls = RL) : LKV M M_X12_shared 214 0 := ⟨lk0_X12_shared, by rw [h]; exact (lw_all_mem (List.mem_append_right _ (List.mem_of_getElem? (i := 1784) (by decide +kernel))) (by decide +kernel)), (lw_all_mem (List.mem_append_right _ (List.mem_of_getElem? (i := 1785) (by decide +kernel))) (by decide +kernel)), (lw_all_mem (List.mem_append_right _ (List.mem_of_getElem? (i := 1786) (by decide +kernel))) (by decide +kernel))⟩
theorem lkL_215 (M : Mk) (h : (mY M).cls = RL) : LKH M M_L_potential 215 5 := ⟨lk0_L_potential, by rw [h]; exact (lw_all_mem (List.mem_append_right _ (List.mem_of_getElem? (i := 1127) (by decide +kernel))) (by decide +kernel)), (lw_all_mem (List.mem_append_right _ (List.mem_of_getElem? (i := 1128) (by decide +kernel))) (by decide +kernel))⟩
theorem lkL_217 (M : Mk) (h : (mY M).cls = RL) : LKV M M_X12_potential 217 3 := ⟨lk0_X12_potential, by rw [h]; exact (lw_all_mem (List.mem_append_right _ (List.mem_of_getElem? (i := 1788) (by decide +kernel))) (by decide +kernel)), (lw_all_mem (List.mem_append_right _ (List.mem_of_getElem? (i := 1789) (by decide +kernel))) (by decide +kernel)), (lw_all_mem (List.mem_append_right _ (List.mem_of_getElem? (i := 1790) (by decide +kernel))) (by decide +kernel))⟩
theorem lkL_218 (M : Mk) (h : (mY M).cls = RL) : LKH M M_L_current 218 4 := ⟨lk0_L_current, by rw [h]; exact (lw_all_mem (List.mem_append_right _ (List.mem_of_getElem? (i := 1160) (by decide +kernel))) (by decide +kernel)), (lw_all_mem (List.mem_append_right _ (List.mem_of_getElem? (i := 1161) (by decide +kernel))) (by decide +kernel))⟩
theorem lkL_220 (M : Mk) (h : (mY M).cls = RL) : LKV M M_X12_current 220 2 := ⟨lk0_X12_current, by rw [h]; exact (lw_all_mem (List.mem_append_right _ (List.mem_of_getElem? (i := 1810) (by decide +kernel))) (by decide +kernel)), (lw_all_mem (List.mem_append_right _ (List.mem_of_getElem? (i := 1811) (by decide +kernel))) (by decide +kernel)), (lw_all_mem (List.mem_append_right _ (List.mem_of_getElem? (i := 1812) (by decide +kernel))) (by decide +kernel))⟩
theorem lkL_221 (M : Mk) (h : (mY M).cls = RL) : LKH M M_L_resistance 221 4 := ⟨lk0_L_resistance, by rw [h]; exact (lw_all_mem (List.mem_append_right _ (List.mem_of_getElem? (i := 1167) (by decide +kernel))) (by decide +kernel)), (lw_all_mem (List.mem_append_right _ (List.mem_of_getElem? (i := 1168) (by decide +kernel))) (by decide +kernel))⟩
theorem lkL_224 (M : Mk) (h : (mY M).cls = RL) : LKV M M_X12_resistance 224 2 := ⟨lk0_X12_resistance, by rw [h]; exact (lw_all_mem (List.mem_append_right _ (List.mem_of_getElem? (i := 1818) (by decide +kernel))) (by decide +kernel)), (lw_all_mem (List.mem_append_right _ (List.mem_of_getElem? (i := 1819) (by decide +kernel))) (by decide +kernel)), (lw_all_mem (List.mem_append_right _ (List.mem_of_getElem? (i := 1820) (by decide +kernel))) (by decide +kernel))⟩
theorem lkL_225 (M : Mk) (h : (mY M).cls = RL) : LKH M M_L_balance 225 3 := ⟨lk0_L_balance, by rw [h]; exact (lw_all_mem (List.mem_append_right _ (List.mem_of_getElem? (i := 1175) (by decide +kernel))) (by decide +kernel)), (lw_all_mem (List.mem_append_right _ (List.mem_of_getElem? (i := 1176) (by decide +kernel))) (by decide +kernel))⟩
theorem lkL_228 (M : Mk) (h : (mY M).cls = RL) : LKV M M_X12_balance 228 1 := ⟨lk0_X12_balance, by rw [h]; exact (lw_all_mem (List.mem_append_right _ (List.mem_of_getElem? (i := 1823) (by decide +kernel))) (by decide +kernel)), (lw_all_mem (List.mem_append_right _ (List.mem_of_getElem? (i := 1824) (by decide +kernel))) (by decide +kernel)), (lw_all_mem (List.mem_append_right _ (List.mem_of_getElem? (i := 1825) (by decide +kernel))) (by decide +kernel))⟩
theorem lkL_229 (M : Mk) (h : (mY M).cls = RL) : LKV M M_X11_solved 229 0 := ⟨lk0_X11_solved, by rw [h]; exact (lw_all_mem (List.mem_append_right _ (List.mem_of_getElem? (i := 715) (by decide +kernel))) (by decide +kernel)), (lw_all_mem (List.mem_append_right _ (List.mem_of_getElem? (i := 716) (by decide +kernel))) (by decide +kernel)), (lw_all_mem (List.mem_append_right _ (List.mem_of_getElem? (i := 717) (by decide +kernel))) (by decide +kernel))⟩
theorem lkL_232 (M : Mk) (h : (mY M).cls = RL) : LKV M M_X12_solved 232 0 := ⟨lk0_X12_solved, by rw [h]; exact (lw_all_mem (List.mem_append_right _ (List.mem_of_getElem? (i := 1828) (by decide +kernel))) (by decide +kernel)), (lw_all_mem (List.mem_append_right _ (List.mem_of_getElem? (i := 1829) (by decide +kernel))) (by decide +kernel)), (lw_all_mem (List.mem_append_right _ (List.mem_of_getElem? (i := 1830) (by decide +kernel))) (by decide +kernel))⟩
theorem lkL_233 (M : Mk) (h : (mY M).cls = RL) : LKV M M_X11_goodMoves 233 0 := ⟨lk0_X11_goodMoves, by rw [h]; exact (lw_all_mem (List.mem_append_right _ (List.mem_of_getElem? (i := 749) (by decide +kernel))) (by decide +kernel)), (lw_all_mem (List.mem_append_right _ (List.mem_of_getElem? (i := 750) (by decide +kernel))) (by decide +kernel)), (lw_all_mem (List.mem_append_right _ (List.mem_of_getElem? (i := 751) (by decide +kernel))) (by decide +kernel))⟩
theorem lkL_236 (M : Mk) (h : (mY M).cls = RL) : LKV M M_X12_goodMoves 236 0 := ⟨lk0_X12_goodMoves, by rw [h]; exact (lw_all_mem (List.mem_append_right _ (List.mem_of_getElem? (i := 1840) (by decide +kernel))) (by decide +kernel)), (lw_all_mem (List.mem_append_right _ (List.mem_of_getElem? (i := 1841) (by decide +kernel))) (by decide +kernel)), (lw_all_mem (List.mem_append_right _ (List.mem_of_getElem? (i := 1842) (by decide +kernel))) (by decide +kernel))⟩
theorem lkL_237 (M : Mk) (h : (mY M).cls = RL) : LKV M M_X11_bestMove 237 0 := ⟨lk0_X11_bestMove, by rw [h]; exact (lw_all_mem (List.mem_append_right _ (List.mem_of_getElem? (i := 761) (by decide +kernel))) (by decide +kernel)), (lw_all_mem (List.mem_append_right _ (List.mem_of_getElem? (i := 762) (by decide +kernel))) (by decide +kernel)), (lw_all_mem (List.mem_append_right _ (List.mem_of_getElem? (i := 763) (by decide +kernel))) (by decide +kernel))⟩
theorem lkL_24 (M : Mk) (h : (mY M).cls = RL) : LKV M M_X11_group 24 2 := ⟨lk0_X11_group, by rw [h]; exact (lw_all_mem (List.mem_append_right _ (List.mem_of_getElem? (i := 954) (by decide +kernel))) (by decide +kernel)), (lw_all_mem (List.mem_append_right _ (List.mem_of_getElem? (i := 955) (by decide +kernel))) (by decide +kernel)), (lw_all_mem (List.mem_append_right _ (List.mem_of_getElem? (i := 956) (by decide +kernel))) (by decide +kernel))⟩
theorem lkL_240 (M : Mk) (h : (mY M).cls = RL) : LKV M M_X12_bestMove 240 0 := ⟨lk0_X12_bestMove, by rw [h]; exact (lw_all_mem (List.mem_append_right _ (List.mem_of_getElem? (i := 1848) (by decide +kernel))) (by decide +kernel)), (lw_all_mem (List.mem_append_right _ (List.mem_of_getElem? (i := 1849) (by decide +kernel))) (by decide +kernel)), (lw_all_mem (List.mem_append_right _ (List.mem_of_getElem? (i := 1850) (by decide +kernel))) (by decide +kernel))⟩
theorem lkL_241 (M : Mk) (h : (mY M).cls = RL) : LKH M M_L_filled 241 3 := ⟨lk0_L_filled, by rw [h]; exact (lw_all_mem (List.mem_append_right _ (List.mem_of_getElem? (i := 1183) (by decide +kernel))) (by decide +kernel)), (lw_all_mem (List.mem_append_right _ (List.mem_of_getElem? (i := 1184) (by decide +kernel))) (by decide +kernel))⟩
theorem lkL_243 (M : Mk) (h : (mY M).cls = RL) : LKV M M_X12_filled 243 1 := ⟨lk0_X12_filled, by rw [h]; exact (lw_all_mem (List.mem_append_right _ (List.mem_of_getElem? (i := 1852) (by decide +kernel))) (by decide +kernel)), (lw_all_mem (List.mem_append_right _ (List.mem_of_getElem? (i := 1853) (by decide +kernel))) (by decide +kernel)), (lw_all_mem (List.mem_append_right _ (List.mem_of_getElem? (i := 1854) (by decide +kernel))) (by decide +kernel))⟩
theorem lkL_244 (M : Mk) (h : (mY M).cls = RL) : LKH M M_L_fillings 244 5 := ⟨lk0_L_fillings, by rw [h]; exact (lw_all_mem (List.mem_append_right _ (List.mem_of_getElem? (i := 1210) (by decide +kernel))) (by decide +kernel)), (lw_all_mem (List.mem_append_right _ (List.mem_of_getElem? (i := 1211) (by decide +kernel))) (by decide +kernel))⟩
theorem lkL_246 (M : Mk) (h : (mY M).cls = RL) : LKV M M_X12_fillings 246 3 := ⟨lk0_X12_fillings, by rw [h]; exact (lw_all_mem (List.mem_append_right _ (List.mem_of_getElem? (i := 1865) (by decide +kernel))) (by decide +kernel)), (lw_all_mem (List.mem_append_right _ (List.mem_of_getElem? (i := 1866) (by decide +kernel))) (by decide +kernel)), (lw_all_mem (List.mem_append_right _ (List.mem_of_getElem? (i := 1867) (by decide +kernel))) (by decide +kernel))⟩
theorem lkL_247 (M : Mk) (h : (mY M).cls = RL) : LKH M M_L_idle 247 3 := ⟨lk0_L_idle, by rw [h]; exact (lw_all_mem (List.mem_append_right _ (List.mem_of_getElem? (i := 1217) (by decide +kernel))) (by decide +kernel)), (lw_all_mem (List.mem_append_right _ (List.mem_of_getElem? (i := 1218) (by decide +kernel))) (by decide +kernel))⟩
theorem lkL_249 (M : Mk) (h : (mY M).cls = RL) : LKV M M_X12_idle 249 1 := ⟨lk0_X12_idle, by rw [h]; exact (lw_all_mem (List.mem_append_right _ (List.mem_of_getElem? (i := 1869) (by decide +kernel))) (by decide +kernel)), (lw_all_mem (List.mem_append_right _ (List.mem_of_getElem? (i := 1870) (by decide +kernel))) (by decide +kernel)), (lw_all_mem (List.mem_append_right _ (List.mem_of_getElem? (i := 1871) (by decide +kernel))) (by decide +kernel))⟩
theorem lkL_250 (M : Mk) (h : (mY M).cls = RL) : LKV M M_X11_moveAt 250 1 := ⟨lk0_X11_moveAt, by rw [h]; exact (lw_all_mem (List.mem_append_right _ (List.mem_of_getElem? (i := 769) (by decide +kernel))) (by decide +kernel)), (lw_all_mem (List.mem_append_right _ (List.mem_of_getElem? (i := 770) (by decide +kernel))) (by decide +kernel)), (lw_all_mem (List.mem_append_right _ (List.mem_of_getElem? (i := 771) (by decide +kernel))) (by decide +kernel))⟩
theorem lkL_253 (M : Mk) (h : (mY M).cls = RL) : LKV M M_X12_moveAt 253 1 := ⟨lk0_X12_moveAt, by rw [h]; exact (lw_all_mem (List.mem_append_right _ (List.mem_of_getElem? (i := 1873) (by decide +kernel))) (by decide +kernel)), (lw_all_mem (List.mem_append_right _ (List.mem_of_getElem? (i := 1874) (by decide +kernel))) (by decide +kernel)), (lw_all_mem (List.mem_append_right _ (List.mem_of_getElem? (i := 1875) (by decide +kernel))) (by decide +kernel))⟩
theorem lkL_254 (M : Mk) (h : (mY M).cls = RL) : LKH M M_L_move 254 3 := ⟨lk0_L_move, by rw [h]; exact (lw_all_mem (List.mem_append_right _ (List.mem_of_getElem? (i := 1230) (by decide +kernel))) (by decide +kernel)), (lw_all_mem (List.mem_append_right _ (List.mem_of_getElem? (i := 1231) (by decide +kernel))) (by decide +kernel))⟩
theorem lkL_256 (M : Mk) (h : (mY M).cls = RL) : LKV M M_X12_move 256 1 := ⟨lk0_X12_move, by rw [h]; exact (lw_all_mem (List.mem_append_right _ (List.mem_of_getElem? (i := 1877) (by decide +kernel))) (by decide +kernel)), (lw_all_mem (List.mem_append_right _ (List.mem_of_getElem? (i := 1878) (by decide +kernel))) (by decide +kernel)), (lw_all_mem (List.mem_append_right _ (List.mem_of_getElem? (i := 1879) (by decide +kernel))) (by decide +kernel))⟩
theorem lkL_257 (M : Mk) (h : (mY M).cls = RL) : LKV M M_X11_swap 257 0 := ⟨lk0_X11_swap, by rw [h]; exact (lw_all_mem (List.mem_append_right _ (List.mem_of_getElem? (i := 773) (by decide +kernel))) (by decide +kernel)), (lw_all_mem (List.mem_append_right _ (List.mem_of_getElem? (i := 774) (by decide +kernel))) (by decide +kernel)), (lw_all_mem (List.mem_append_right _ (List.mem_of_getElem? (i := 775) (by decide +kernel))) (by decide +kernel))⟩
theorem lkL_260 (M : Mk) (h : (mY M).cls = RL) : LKV M M_X12_swap 260 0 := ⟨lk0_X12_swap, by rw [h]; exact (lw_all_mem (List.mem_append_right _ (List.mem_of_getElem? (i := 1885) (by decide +kernel))) (by decide +kernel)), (lw_all_mem (List.mem_append_right _ (List.mem_of_getElem? (i := 1886) (by decide +kernel))) (by decide +kernel)), (lw_all_mem (List.mem_append_right _ (List.mem_of_getElem? (i := 1887) (by decide +kernel))) (by decide +kernel))⟩
theorem lkL_261 (M : Mk) (h : (mY M).cls = RL) : LKV M M_X11_giveUp 261 0 := ⟨lk0_X11_giveUp, by rw [h]; exact (lw_all_mem (List.mem_append_right _ (List.mem_of_getElem? (i := 795) (by decide +kernel))) (by decide +kernel)), (lw_all_mem (List.mem_append_right _ (List.mem_of_getElem? (i := 796) (by decide +kernel))) (by decide +kernel)), (lw_all_mem (List.mem_append_right _ (List.mem_of_getElem? (i := 797) (by decide +kernel))) (by decide +kernel))⟩
theorem lkL_264 (M : Mk) (h : (mY M).cls = RL) : LKV M M_X12_giveUp 264 0 := ⟨lk0_X12_giveUp, by rw [h]; exact (lw_all_mem (List.mem_append_right _ (List.mem_of_getElem? (i := 1893) (by decide +kernel))) (by decide +kernel)), (lw_all_mem (List.mem_append_right _ (List.mem_of_getElem? (i := 1894) (by decide +kernel))) (by decide +kernel)), (lw_all_mem (List.mem_append_right _ (List.mem_of_getElem? (i := 1895) (by decide +kernel))) (by decide +kernel))⟩
theorem lkL_265 (M : Mk) (h : (mY M).cls = RL) : LKH M M_L_put 265 4 := ⟨lk0_L_put, by rw [h]; exact (lw_all_mem (List.mem_append_right _ (List.mem_of_getElem? (i := 1237) (by decide +kernel))) (by decide +kernel)), (lw_all_mem (List.mem_append_right _ (List.mem_of_getElem? (i := 1238) (by decide +kernel))) (by decide +kernel))⟩
theorem lkL_267 (M : Mk) (h : (mY M).cls = RL) : LKV M M_X12_put 267 2 := ⟨lk0_X12_put, by rw [h]; exact (lw_all_mem (List.mem_append_right _ (List.mem_of_getElem? (i := 1897) (by decide +kernel))) (by decide +kernel)), (lw_all_mem (List.mem_append_right _ (List.mem_of_getElem? (i := 1898) (by decide +kernel))) (by decide +kernel)), (lw_all_mem (List.mem_append_right _ (List.mem_of_getElem? (i := 1899) (by decide +kernel))) (by decide +kernel))⟩
theorem lkL_268 (M : Mk) (h : (mY M).cls = RL) : LKH M M_L_setTurn 268 3 := ⟨lk0_L_setTurn, by rw [h]; exact (lw_all_mem (List.mem_append_right _ (List.mem_of_getElem? (i := 1244) (by decide +kernel))) (by decide +kernel)), (lw_all_mem (List.mem_append_right _ (List.mem_of_getElem? (i := 1245) (by decide +kernel))) (by decide +kernel))⟩
theorem lkL_27 (M : Mk) (h : (mY M).cls = RL) : LKV M M_X11_groups 27 1 := ⟨lk0_X11_groups, by rw [h]; exact (lw_all_mem (List.mem_append_right _ (List.mem_of_getElem? (i := 978) (by decide +kernel))) (by decide +kernel)), (lw_all_mem (List.mem_append_right _ (List.mem_of_getElem? (i := 979) (by decide +kernel))) (by decide +kernel)), (lw_all_mem (List.mem_append_right _ (List.mem_of_getElem? (i := 980) (by decide +kernel))) (by decide +kernel))⟩
theorem lkL_270 (M : Mk) (h : (mY M).cls = RL) : LKV M M_X12_setTurn 270 1 := ⟨lk0_X12_setTurn, by rw [h]; exact (lw_all_mem (List.mem_append_right _ (List.mem_of_getElem? (i := 1902) (by decide +kernel))) (by decide +kernel)), (lw_all_mem (List.mem_append_right _ (List.mem_of_getElem? (i := 1903) (by decide +kernel))) (by decide +kernel)), (lw_all_mem (List.mem_append_right _ (List.mem_of_getElem? (i := 1904) (by decide +kernel))) (by decide +kernel))⟩
theorem lkL_271 (M : Mk) (h : (mY M).cls = RL) : LKV M M_X11_turnOver 271 0 := ⟨lk0_X11_turnOver, by rw [h]; exact (lw_all_mem (List.mem_append_right _ (List.mem_of_getElem? (i := 799) (by decide +kernel))) (by decide +kernel)), (lw_all_mem (List.mem_append_right _ (List.mem_of_getElem? (i := 800) (by decide +kernel))) (by decide +kernel)), (lw_all_mem (List.mem_append_right _ (List.mem_of_getElem? (i := 801) (by decide +kernel))) (by decide +kernel))⟩
theorem lkL_274 (M : Mk) (h : (mY M).cls = RL) : LKV M M_X12_turnOver 274 0 := ⟨lk0_X12_turnOver, by rw [h]; exact (lw_all_mem (List.mem_append_right _ (List.mem_of_getElem? (i := 1906) (by decide +kernel))) (by decide +kernel)), (lw_all_mem (List.mem_append_right _ (List.mem_of_getElem? (i := 1907) (by decide +kernel))) (by decide +kernel)), (lw_all_mem (List.mem_append_right _ (List.mem_of_getElem? (i := 1908) (by decide +kernel))) (by decide +kernel))⟩
theorem lkL_275 (M : Mk) (h : (mY M).cls = RL) : LKH M M_L_playForced 275 3 := ⟨lk0_L_playForced, by rw [h]; exact (lw_all_mem (List.mem_append_right _ (List.mem_of_getElem? (i := 1251) (by decide +kernel))) (by decide +kernel)), (lw_all_mem (List.mem_append_right _ (List.mem_of_getElem? (i := 1252) (by decide +kernel))) (by decide +kernel))⟩
theorem lkL_277 (M : Mk) (h : (mY M).cls = RL) : LKV M M_X12_playForced 277 1 := ⟨lk0_X12_playForced, by rw [h]; exact (lw_all_mem (List.mem_append_right _ (List.mem_of_getElem? (i := 1913) (by decide +kernel))) (by decide +kernel)), (lw_all_mem (List.mem_append_right _ (List.mem_of_getElem? (i := 1914) (by decide +kernel))) (by decide +kernel)), (lw_all_mem (List.mem_append_right _ (List.mem_of_getElem? (i := 1915) (by decide +kernel))) (by decide +kernel))⟩
theorem lkL_278 (M : Mk) (h : (mY M).cls = RL) : LKV M M_X11_forcedWinner 278 0 := ⟨lk0_X11_forcedWinner, by rw [h]; exact (lw_all_mem (List.mem_append_right _ (List.mem_of_getElem? (i := 812) (by decide +kernel))) (by decide +kernel)), (lw_all_mem (List.mem_append_right _ (List.mem_of_getElem? (i := 813) (by decide +kernel))) (by decide +kernel)), (lw_all_mem (List.mem_append_right _ (List.mem_of_getElem? (i := 814) (by decide +kernel))) (by decide +kernel))⟩
theorem lkL_281 (M : Mk) (h : (mY M).cls = RL) : LKV M M_X12_forcedWinner 281 0 := ⟨lk0_X12_forcedWinner, by rw [h]; exact (lw_all_mem (List.mem_append_right _ (List.mem_of_getElem? (i := 1922) (by decide +kernel))) (by decide +kernel)), (lw_all_mem (List.mem_append_right _ (List.mem_of_getElem? (i := 1923) (by decide +kernel))) (by decide +kernel)), (lw_all_mem (List.mem_append_right _ (List.mem_of_getElem? (i := 1924) (by decide +kernel))) (by decide +kernel))⟩
theorem lkL_282 (M : Mk) (h : (mY M).cls = RL) : LKV M M_X11_forcedRow 282 0 := ⟨lk0_X11_forcedRow, by rw [h]; exact (lw_all_mem (List.mem_append_right _ (List.mem_of_getElem? (i := 820) (by decide +kernel))) (by decide +kernel)), (lw_all_mem (List.mem_append_right _ (List.mem_of_getElem? (i := 821) (by decide +kernel))) (by decide +kernel)), (lw_all_mem (List.mem_append_right _ (List.mem_of_getElem? (i := 822) (by decide +kernel))) (by decide +kernel))⟩
theorem lkL_285 (M : Mk) (h : (mY M).cls = RL) : LKV M M_X12_forcedRow 285 0 := ⟨lk0_X12_forcedRow, by rw [h]; exact (lw_all_mem (List.mem_append_right _ (List.mem_of_getElem? (i := 1926) (by decide +kernel))) (by decide +kernel)), (lw_all_mem (List.mem_append_right _ (List.mem_of_getElem? (i := 1927) (by decide +kernel))) (by decide +kernel)), (lw_all_mem (List.mem_append_right _ (List.mem_of_getElem? (i := 1928) (by decide +kernel))) (by decide +kernel))⟩
theorem lkL_286 (M : Mk) (h : (mY M).cls = RL) : LKV M M_X11_fullness 286 0 := ⟨lk0_X11_fullness, by rw [h]; exact (lw_all_mem (List.mem_append_right _ (List.mem_of_getElem? (i := 824) (by decide +kernel))) (by decide +kernel)), (lw_all_mem (List.mem_append_right _ (List.mem_of_getElem? (i := 825) (by decide +kernel))) (by decide +kernel)), (lw_all_mem (List.mem_append_right _ (List.mem_of_getElem? (i := 826) (by decide +kernel))) (by decide +kernel))⟩
theorem lkL_290 (M : Mk) (h : (mY M).cls = RL) : LKV M M_X12_fullness 290 0 := ⟨lk0_X12_fullness, by rw [h]; exact (lw_all_mem (List.mem_append_right _ (List.mem_of_getElem? (i := 1930) (by decide +kernel))) (by decide +kernel)), (lw_all_mem (List.mem_append_right _ (List.mem_of_getElem? (i := 1931) (by decide +kernel))) (by decide +kernel)), (lw_all_mem (List.mem_append_right _ (List.mem_of_getElem? (i := 1932) (by decide +kernel))) (by decide +kernel))⟩
theorem lkL_291 (M : Mk) (h : (mY M).cls = RL) : LKH M M_L_writeRow 291 3 := ⟨lk0_L_writeRow, by rw [h]; exact (lw_all_mem (List.mem_append_right _ (List.mem_of_getElem? (i := 1258) (by decide +kernel))) (by decide +kernel)), (lw_all_mem (List.mem_append_right _ (List.mem_of_getElem? (i := 1259) (by decide +kernel))) (by decide +kernel))⟩
theorem lkL_293 (M : Mk) (h : (mY M).cls = RL) : LKV M M_X12_writeRow 293 1 := ⟨lk0_X12_writeRow, by rw [h]; exact (lw_all_mem (List.mem_append_right _ (List.mem_of_getElem? (i := 1934) (by decide +kernel))) (by decide +kernel)), (lw_all_mem (List.mem_append_right _ (List.mem_of_getElem? (i := 1935) (by decide +kernel))) (by decide +kernel)), (lw_all_mem (List.mem_append_right _ (List.mem_of_getElem? (i := 1936) (by decide +kernel))) (by decide +kernel))⟩
theorem lkL_294 (M : Mk) (h : (mY M).cls = RL) : LKH M M_L_writeCell 294 3 := ⟨lk0_L_writeCell, by rw [h]; exact (lw_all_mem (List.mem_append_right _ (List.mem_of_getElem? (i := 1267) (by decide +kernel))) (by decide +kernel)), (lw_all_mem (List.mem_append_right _ (List.mem_of_getElem? (i := 1268) (by decide +kernel))) (by decide +kernel))⟩
theorem lkL_296 (M : Mk) (h : (mY M).cls = RL) : LKV M M_X12_writeCell 296 1 := ⟨lk0_X12_writeCell, by rw [h]; exact (lw_all_mem (List.mem_append_right _ (List.mem_of_getElem? (i := 1942) (by decide +kernel))) (by decide +kernel)), (lw_all_mem (List.mem_append_right _ (List.mem_of_getElem? (i := 1943) (by decide +kernel))) (by decide +kernel)), (lw_all_mem (List.mem_append_right _ (List.mem_of_getElem? (i := 1944) (by decide +kernel))) (by decide +kernel))⟩
theorem lkL_297 (M : Mk) (h : (mY M).cls = RL) : LKV M M_X11_outputByte 297 1 := ⟨lk0_X11_outputByte, by rw [h]; exact (lw_all_mem (List.mem_append_right _ (List.mem_of_getElem? (i := 828) (by decide +kernel))) (by decide +kernel)), (lw_all_mem (List.mem_append_right _ (List.mem_of_getElem? (i := 829) (by decide +kernel))) (by decide +kernel)), (lw_all_mem (List.mem_append_right _ (List.mem_of_getElem? (i := 830) (by decide +kernel))) (by decide +kernel))⟩
theorem lkL_30 (M : Mk) (h : (mY M).cls = RL) : LKV M M_X11_largest 30 1 := ⟨lk0_X11_largest, by rw [h]; exact (lw_all_mem (List.mem_append_right _ (List.mem_of_getElem? (i := 993) (by decide +kernel))) (by decide +kernel)), (lw_all_mem (List.mem_append_right _ (List.mem_of_getElem? (i := 994) (by decide +kernel))) (by decide +kernel)), (lw_all_mem (List.mem_append_right _ (List.mem_of_getElem? (i := 995) (by decide +kernel))) (by decide +kernel))⟩
theorem lkL_300 (M : Mk) (h : (mY M).cls = RL) : LKV M M_X12_outputByte 300 1 := ⟨lk0_X12_outputByte, by rw [h]; exact (lw_all_mem (List.mem_append_right _ (List.mem_of_getElem? (i := 1946) (by decide +kernel))) (by decide +kernel)), (lw_all_mem (List.mem_append_right _ (List.mem_of_getElem? (i := 1947) (by decide +kernel))) (by decide +kernel)), (lw_all_mem (List.mem_append_right _ (List.mem_of_getElem? (i := 1948) (by decide +kernel))) (by decide +kernel))⟩
theorem lkL_301 (M : Mk) (h : (mY M).cls = RL) : LKV M M_X11_undo 301 0 := ⟨lk0_X11_undo, by rw [h]; exact (lw_all_mem (List.mem_append_right _ (List.mem_of_getElem? (i := 833) (by decide +kernel))) (by decide +kernel)), (lw_all_mem (List.mem_append_right _ (List.mem_of_getElem? (i := 834) (by decide +kernel))) (by decide +kernel)), (lw_all_mem (List.mem_append_right _ (List.mem_of_getElem? (i := 835) (by decide +kernel))) (by decide +kernel))⟩
theorem lkL_304 (M : Mk) (h : (mY M).cls = RL) : LKV M M_X12_undo 304 0 := ⟨lk0_X12_undo, by rw [h]; exact (lw_all_mem (List.mem_append_right _ (List.mem_of_getElem? (i := 1950) (by decide +kernel))) (by decide +kernel)), (lw_all_mem (List.mem_append_right _ (List.mem_of_getElem? (i := 1951) (by decide +kernel))) (by decide +kernel)), (lw_all_mem (List.mem_append_right _ (List.mem_of_getElem? (i := 1952) (by decide +kernel))) (by decide +kernel))⟩
theorem lkL_305 (M : Mk) (h : (mY M).cls = RL) : LKH M M_L_saveSnapshot 305 3 := ⟨lk0_L_saveSnapshot, by rw [h]; exact (lw_all_mem (List.mem_append_right _ (List.mem_of_getElem? (i := 1276) (by decide +kernel))) (by decide +kernel)), (lw_all_mem (List.mem_append_right _ (List.mem_of_getElem? (i := 1277) (by decide +kernel))) (by decide +kernel))⟩
theorem lkL_307 (M : Mk) (h : (mY M).cls = RL) : LKV M M_X12_saveSnapshot 307 1 := ⟨lk0_X12_saveSnapshot, by rw [h]; exact (lw_all_mem (List.mem_append_right _ (List.mem_of_getElem? (i := 1954) (by decide +kernel))) (by decide +kernel)), (lw_all_mem (List.mem_append_right _ (List.mem_of_getElem? (i := 1955) (by decide +kernel))) (by decide +kernel)), (lw_all_mem (List.mem_append_right _ (List.mem_of_getElem? (i := 1956) (by decide +kernel))) (by decide +kernel))⟩
theorem lkL_308 (M : Mk) (h : (mY M).cls = RL) : LKH M M_L_restoreSnapshot 308 3 := ⟨lk0_L_restoreSnapshot, by rw [h]; exact (lw_all_mem (List.mem_append_right _ (List.mem_of_getElem? (i := 1283) (by decide +kernel))) (by decide +kernel)), (lw_all_mem (List.mem_append_right _ (List.mem_of_getElem? (i := 1284) (by decide +kernel))) (by decide +kernel))⟩
theorem lkL_310 (M : Mk) (h : (mY M).cls = RL) : LKV M M_X12_restoreSnapshot 310 1 := ⟨lk0_X12_restoreSnapshot, by rw [h]; exact (lw_all_mem (List.mem_append_right _ (List.mem_of_getElem? (i := 1958) (by decide +kernel))) (by decide +kernel)), (lw_all_mem (List.mem_append_right _ (List.mem_of_getElem? (i := 1959) (by decide +kernel))) (by decide +kernel)), (lw_all_mem (List.mem_append_right _ (List.mem_of_getElem? (i := 1960) (by decide +kernel))) (by decide +kernel))⟩
theorem lkL_33 (M : Mk) (h : (mY M).cls = RL) : LKV M M_X11_isBridge 33 2 := ⟨lk0_X11_isBridge, by rw [h]; exact (lw_all_mem (List.mem_append_right _ (List.mem_of_getElem? (i := 1004) (by decide +kernel))) (by decide +kernel)), (lw_all_mem (List.mem_append_right _ (List.mem_of_getElem? (i := 1005) (by decide +kernel))) (by decide +kernel)), (lw_all_mem (List.mem_append_right _ (List.mem_of_getElem? (i := 1006) (by decide +kernel))) (by decide +kernel))⟩
theorem lkL_37 (M : Mk) (h : (mY M).cls = RL) : LKV M M_X11_bridges 37 2 := ⟨lk0_X11_bridges, by rw [h]; exact (lw_all_mem (List.mem_append_right _ (List.mem_of_getElem? (i := 1017) (by decide +kernel))) (by decide +kernel)), (lw_all_mem (List.mem_append_right _ (List.mem_of_getElem? (i := 1018) (by decide +kernel))) (by decide +kernel)), (lw_all_mem (List.mem_append_right _ (List.mem_of_getElem? (i := 1019) (by decide +kernel))) (by decide +kernel))⟩
theorem lkL_41 (M : Mk) (h : (mY M).cls = RL) : LKV M M_X11_bridge 41 3 := ⟨lk0_X11_bridge, by rw [h]; exact (lw_all_mem (List.mem_append_right _ (List.mem_of_getElem? (i := 1028) (by decide +kernel))) (by decide +kernel)), (lw_all_mem (List.mem_append_right _ (List.mem_of_getElem? (i := 1029) (by decide +kernel))) (by decide +kernel)), (lw_all_mem (List.mem_append_right _ (List.mem_of_getElem? (i := 1030) (by decide +kernel))) (by decide +kernel))⟩
theorem lkL_45 (M : Mk) (h : (mY M).cls = RL) : LKV M M_X11_chain 45 2 := ⟨lk0_X11_chain, by rw [h]; exact (lw_all_mem (List.mem_append_right _ (List.mem_of_getElem? (i := 1039) (by decide +kernel))) (by decide +kernel)), (lw_all_mem (List.mem_append_right _ (List.mem_of_getElem? (i := 1040) (by decide +kernel))) (by decide +kernel)), (lw_all_mem (List.mem_append_right _ (List.mem_of_getElem? (i := 1041) (by decide +kernel))) (by decide +kernel))⟩
theorem lkL_48 (M : Mk) (h : (mY M).cls = RL) : LKV M M_X11_chains 48 1 := ⟨lk0_X11_chains, by rw [h]; exact (lw_all_mem (List.mem_append_right _ (List.mem_of_getElem? (i := 1069) (by decide +kernel))) (by decide +kernel)), (lw_all_mem (List.mem_append_right _ (List.mem_of_getElem? (i := 1070) (by decide +kernel))) (by decide +kernel)), (lw_all_mem (List.mem_append_right _ (List.mem_of_getElem? (i := 1071) (by decide +kernel))) (by decide +kernel))⟩
theorem lkL_51 (M : Mk) (h : (mY M).cls = RL) : LKV M M_X11_isSafe 51 1 := ⟨lk0_X11_isSafe, by rw [h]; exact (lw_all_mem (List.mem_append_right _ (List.mem_of_getElem? (i := 1076) (by decide +kernel))) (by decide +kernel)), (lw_all_mem (List.mem_append_right _ (List.mem_of_getElem? (i := 1077) (by decide +kernel))) (by decide +kernel)), (lw_all_mem (List.mem_append_right _ (List.mem_of_getElem? (i := 1078) (by decide +kernel))) (by decide +kernel))⟩
theorem lkL_55 (M : Mk) (h : (mY M).cls = RL) : LKV M M_X11_answer 55 1 := ⟨lk0_X11_answer, by rw [h]; exact (lw_all_mem (List.mem_append_right _ (List.mem_of_getElem? (i := 1083) (by decide +kernel))) (by decide +kernel)), (lw_all_mem (List.mem_append_right _ (List.mem_of_getElem? (i := 1084) (by decide +kernel))) (by decide +kernel)), (lw_all_mem (List.mem_append_right _ (List.mem_of_getElem? (i := 1085) (by decide +kernel))) (by decide +kernel))⟩
theorem lkL_58 (M : Mk) (h : (mY M).cls = RL) : LKV M M_X11_threats 58 1 := ⟨lk0_X11_threats, by rw [h]; exact (lw_all_mem (List.mem_append_right _ (List.mem_of_getElem? (i := 1090) (by decide +kernel))) (by decide +kernel)), (lw_all_mem (List.mem_append_right _ (List.mem_of_getElem? (i := 1091) (by decide +kernel))) (by decide +kernel)), (lw_all_mem (List.mem_append_right _ (List.mem_of_getElem? (i := 1092) (by decide +kernel))) (by decide +kernel))⟩
theorem lkL_61 (M : Mk) (h : (mY M).cls = RL) : LKV M M_X11_threat 61 2 := ⟨lk0_X11_threat, by rw [h]; exact (lw_all_mem (List.mem_append_right _ (List.mem_of_getElem? (i := 1097) (by decide +kernel))) (by decide +kernel)), (lw_all_mem (List.mem_append_right _ (List.mem_of_getElem? (i := 1098) (by decide +kernel))) (by decide +kernel)), (lw_all_mem (List.mem_append_right _ (List.mem_of_getElem? (i := 1099) (by decide +kernel))) (by decide +kernel))⟩
theorem lkL_64 (M : Mk) (h : (mY M).cls = RL) : LKV M M_X11_distance 64 1 := ⟨lk0_X11_distance, by rw [h]; exact (lw_all_mem (List.mem_append_right _ (List.mem_of_getElem? (i := 1104) (by decide +kernel))) (by decide +kernel)), (lw_all_mem (List.mem_append_right _ (List.mem_of_getElem? (i := 1105) (by decide +kernel))) (by decide +kernel)), (lw_all_mem (List.mem_append_right _ (List.mem_of_getElem? (i := 1106) (by decide +kernel))) (by decide +kernel))⟩
theorem lkL_67 (M : Mk) (h : (mY M).cls = RL) : LKV M M_X11_through 67 2 := ⟨lk0_X11_through, by rw [h]; exact (lw_all_mem (List.mem_append_right _ (List.mem_of_getElem? (i := 1116) (by decide +kernel))) (by decide +kernel)), (lw_all_mem (List.mem_append_right _ (List.mem_of_getElem? (i := 1117) (by decide +kernel))) (by decide +kernel)), (lw_all_mem (List.mem_append_right _ (List.mem_of_getElem? (i := 1118) (by decide +kernel))) (by decide +kernel))⟩
theorem lkL_7 (M : Mk) (h : (mY M).cls = RL) : LKV M M_X11_size 7 1 := ⟨lk0_X11_size, by rw [h]; exact (lw_all_mem (List.mem_append_right _ (List.mem_of_getElem? (i := 845) (by decide +kernel))) (by decide +kernel)), (lw_all_mem (List.mem_append_right _ (List.mem_of_getElem? (i := 846) (by decide +kernel))) (by decide +kernel)), (lw_all_mem (List.mem_append_right _ (List.mem_of_getElem? (i := 847) (by decide +kernel))) (by decide +kernel))⟩
theorem lkL_70 (M : Mk) (h : (mY M).cls = RL) : LKV M M_X11_useful 70 1 := ⟨lk0_X11_useful, by rw [h]; exact (lw_all_mem (List.mem_append_right _ (List.mem_of_getElem? (i := 1123) (by decide +kernel))) (by decide +kernel)), (lw_all_mem (List.mem_append_right _ (List.mem_of_getElem? (i := 1124) (by decide +kernel))) (by decide +kernel)), (lw_all_mem (List.mem_append_right _ (List.mem_of_getElem? (i := 1125) (by decide +kernel))) (by decide +kernel))⟩
theorem lkL_73 (M : Mk) (h : (mY M).cls = RL) : LKV M M_X11_potential 73 3 := ⟨lk0_X11_potential, by rw [h]; exact (lw_all_mem (List.mem_append_right _ (List.mem_of_getElem? (i := 1130) (by decide +kernel))) (by decide +kernel)), (lw_all_mem (List.mem_append_right _ (List.mem_of_getElem? (i := 1131) (by decide +kernel))) (by decide +kernel)), (lw_all_mem (List.mem_append_right _ (List.mem_of_getElem? (i := 1132) (by decide +kernel))) (by decide +kernel))⟩
theorem lkL_76 (M : Mk) (h : (mY M).cls = RL) : LKV M M_X11_current 76 2 := ⟨lk0_X11_current, by rw [h]; exact (lw_all_mem (List.mem_append_right _ (List.mem_of_getElem? (i := 1163) (by decide +kernel))) (by decide +kernel)), (lw_all_mem (List.mem_append_right _ (List.mem_of_getElem? (i := 1164) (by decide +kernel))) (by decide +kernel)), (lw_all_mem (List.mem_append_right _ (List.mem_of_getElem? (i := 1165) (by decide +kernel))) (by decide +kernel))⟩
theorem lkL_79 (M : Mk) (h : (mY M).cls = RL) : LKV M M_X11_resistance 79 2 := ⟨lk0_X11_resistance, by rw [h]; exact (lw_all_mem (List.mem_append_right _ (List.mem_of_getElem? (i := 1170) (by decide +kernel))) (by decide +kernel)), (lw_all_mem (List.mem_append_right _ (List.mem_of_getElem? (i := 1171) (by decide +kernel))) (by decide +kernel)), (lw_all_mem (List.mem_append_right _ (List.mem_of_getElem? (i := 1172) (by decide +kernel))) (by decide +kernel))⟩
theorem lkL_83 (M : Mk) (h : (mY M).cls = RL) : LKV M M_X11_balance 83 1 := ⟨lk0_X11_balance, by rw [h]; exact (lw_all_mem (List.mem_append_right _ (List.mem_of_getElem? (i := 1178) (by decide +kernel))) (by decide +kernel)), (lw_all_mem (List.mem_append_right _ (List.mem_of_getElem? (i := 1179) (by decide +kernel))) (by decide +kernel)), (lw_all_mem (List.mem_append_right _ (List.mem_of_getElem? (i := 1180) (by decide +kernel))) (by decide +kernel))⟩
theorem lkL_87 (M : Mk) (h : (mY M).cls = RL) : LKV M M_X11_filled 87 1 := ⟨lk0_X11_filled, by rw [h]; exact (lw_all_mem (List.mem_append_right _ (List.mem_of_getElem? (i := 1186) (by decide +kernel))) (by decide +kernel)), (lw_all_mem (List.mem_append_right _ (List.mem_of_getElem? (i := 1187) (by decide +kernel))) (by decide +kernel)), (lw_all_mem (List.mem_append_right _ (List.mem_of_getElem? (i := 1188) (by decide +kernel))) (by decide +kernel))⟩
theorem lkL_90 (M : Mk) (h : (mY M).cls = RL) : LKV M M_X11_fillings 90 3 := ⟨lk0_X11_fillings, by rw [h]; exact (lw_all_mem (List.mem_append_right _ (List.mem_of_getElem? (i := 1213) (by decide +kernel))) (by decide +kernel)), (lw_all_mem (List.mem_append_right _ (List.mem_of_getElem? (i := 1214) (by decide +kernel))) (by decide +kernel)), (lw_all_mem (List.mem_append_right _ (List.mem_of_getElem? (i := 1215) (by decide +kernel))) (by decide +kernel))⟩
theorem lkL_93 (M : Mk) (h : (mY M).cls = RL) : LKV M M_X11_idle 93 1 := ⟨lk0_X11_idle, by rw [h]; exact (lw_all_mem (List.mem_append_right _ (List.mem_of_getElem? (i := 1220) (by decide +kernel))) (by decide +kernel)), (lw_all_mem (List.mem_append_right _ (List.mem_of_getElem? (i := 1221) (by decide +kernel))) (by decide +kernel)), (lw_all_mem (List.mem_append_right _ (List.mem_of_getElem? (i := 1222) (by decide +kernel))) (by decide +kernel))⟩
theorem lkL_96 (M : Mk) (h : (mY M).cls = RL) : LKV M M_X11_move 96 1 := ⟨lk0_X11_move, by rw [h]; exact (lw_all_mem (List.mem_append_right _ (List.mem_of_getElem? (i := 1233) (by decide +kernel))) (by decide +kernel)), (lw_all_mem (List.mem_append_right _ (List.mem_of_getElem? (i := 1234) (by decide +kernel))) (by decide +kernel)), (lw_all_mem (List.mem_append_right _ (List.mem_of_getElem? (i := 1235) (by decide +kernel))) (by decide +kernel))⟩
theorem lkL_99 (M : Mk) (h : (mY M).cls = RL) : LKV M M_X11_put 99 2 := ⟨lk0_X11_put, by rw [h]; exact (lw_all_mem (List.mem_append_right _ (List.mem_of_getElem? (i := 1240) (by decide +kernel))) (by decide +kernel)), (lw_all_mem (List.mem_append_right _ (List.mem_of_getElem? (i := 1241) (by decide +kernel))) (by decide +kernel)), (lw_all_mem (List.mem_append_right _ (List.mem_of_getElem? (i := 1242) (by decide +kernel))) (by decide +kernel))⟩
theorem lw_cl_13 : Cond.classLink "HexArbiterLaw" 13 "java/lang/IllegalArgumentException" ∈ lw_all := (lw_all_mem (List.mem_append_right _ (List.mem_of_getElem? (i := 844) (by decide +kernel))) (by decide +kernel))
theorem lw_ca_0 : Cond.castable "java/lang/IllegalArgumentException" "java/lang/IllegalArgumentException" ∈ fw_all := List.mem_filter.mpr ⟨(List.mem_of_getElem? (i := 851) (by decide +kernel)), rfl⟩
theorem lw_cl_18 : Cond.classLink "HexArbiterLaw" 18 "java/lang/IndexOutOfBoundsException" ∈ lw_all := (lw_all_mem (List.mem_append_right _ (List.mem_of_getElem? (i := 918) (by decide +kernel))) (by decide +kernel))
theorem lw_ca_1 : Cond.castable "java/lang/IndexOutOfBoundsException" "java/lang/IndexOutOfBoundsException" ∈ fw_all := List.mem_filter.mpr ⟨(List.mem_of_getElem? (i := 929) (by decide +kernel)), rfl⟩
theorem hn_L_size_0 : hndl M_L_size 4 (exN 0) 1 := ⟨[], ⟨0, 9, 12, 13⟩, [], rfl, (fun z hz => nomatch hz), rfl, Nat.succ_ne_zero _, lw_cl_13, lw_ca_0, Or.inl ⟨3, dL_size_12, Nat.le_of_ble_eq_true rfl, dL_size_13, dL_size_14⟩⟩
theorem hn_L_cell_1 : hndl M_L_cell 4 (exN 1) 1 := ⟨[], ⟨0, 9, 12, 18⟩, [], rfl, (fun z hz => nomatch hz), rfl, Nat.succ_ne_zero _, lw_cl_18, lw_ca_1, Or.inl ⟨3, dL_cell_12, Nat.le_of_ble_eq_true rfl, dL_cell_13, dL_cell_14⟩⟩
theorem hn_L_neighbour_1 : hndl M_L_neighbour 5 (exN 1) 1 := ⟨[], ⟨0, 10, 13, 18⟩, [], rfl, (fun z hz => nomatch hz), rfl, Nat.succ_ne_zero _, lw_cl_18, lw_ca_1, Or.inr ⟨4, dL_neighbour_13, Nat.le_of_ble_eq_true rfl, dL_neighbour_15, dL_neighbour_16⟩⟩
theorem hn_L_group_1 : hndl M_L_group 5 (exN 1) 1 := ⟨[], ⟨0, 10, 13, 18⟩, [⟨0, 10, 17, 13⟩], rfl, (fun z hz => nomatch hz), rfl, Nat.succ_ne_zero _, lw_cl_18, lw_ca_1, Or.inr ⟨4, dL_group_13, Nat.le_of_ble_eq_true rfl, dL_group_15, dL_group_16⟩⟩
theorem hn_L_group_0 : hndl M_L_group 5 (exN 0) 2 := ⟨[⟨0, 10, 13, 18⟩], ⟨0, 10, 17, 13⟩, [], rfl, (fun z hz => by
    cases List.mem_singleton.mp hz
    exact ⟨Nat.succ_ne_zero _, "java/lang/IndexOutOfBoundsException", lw_cl_18, Or.inl ⟨rfl, rfl⟩⟩), rfl, Nat.succ_ne_zero _, lw_cl_13, lw_ca_0, Or.inr ⟨4, dL_group_17, Nat.le_of_ble_eq_true rfl, dL_group_19, dL_group_20⟩⟩
theorem hn_L_groups_0 : hndl M_L_groups 4 (exN 0) 1 := ⟨[], ⟨0, 9, 12, 13⟩, [], rfl, (fun z hz => nomatch hz), rfl, Nat.succ_ne_zero _, lw_cl_13, lw_ca_0, Or.inl ⟨3, dL_groups_12, Nat.le_of_ble_eq_true rfl, dL_groups_13, dL_groups_14⟩⟩
theorem hn_L_largest_0 : hndl M_L_largest 4 (exN 0) 1 := ⟨[], ⟨0, 9, 12, 13⟩, [], rfl, (fun z hz => nomatch hz), rfl, Nat.succ_ne_zero _, lw_cl_13, lw_ca_0, Or.inl ⟨3, dL_largest_12, Nat.le_of_ble_eq_true rfl, dL_largest_13, dL_largest_14⟩⟩
theorem hn_L_isBridge_1 : hndl M_L_isBridge 5 (exN 1) 1 := ⟨[], ⟨0, 17, 20, 18⟩, [], rfl, (fun z hz => nomatch hz), rfl, Nat.succ_ne_zero _, lw_cl_18, lw_ca_1, Or.inr ⟨4, dL_isBridge_20, Nat.le_of_ble_eq_true rfl, dL_isBridge_22, dL_isBridge_23⟩⟩
theorem hn_L_bridges_0 : hndl M_L_bridges 5 (exN 0) 1 := ⟨[], ⟨0, 10, 13, 13⟩, [], rfl, (fun z hz => nomatch hz), rfl, Nat.succ_ne_zero _, lw_cl_13, lw_ca_0, Or.inr ⟨4, dL_bridges_13, Nat.le_of_ble_eq_true rfl, dL_bridges_15, dL_bridges_16⟩⟩
theorem hn_L_bridge_0 : hndl M_L_bridge 7 (exN 0) 1 := ⟨[], ⟨0, 12, 15, 13⟩, [], rfl, (fun z hz => nomatch hz), rfl, Nat.succ_ne_zero _, lw_cl_13, lw_ca_0, Or.inr ⟨5, dL_bridge_15, Nat.le_of_ble_eq_true rfl, dL_bridge_17, dL_bridge_18⟩⟩
theorem hn_L_chain_1 : hndl M_L_chain 5 (exN 1) 1 := ⟨[], ⟨0, 10, 13, 18⟩, [⟨0, 10, 17, 13⟩], rfl, (fun z hz => nomatch hz), rfl, Nat.succ_ne_zero _, lw_cl_18, lw_ca_1, Or.inr ⟨4, dL_chain_13, Nat.le_of_ble_eq_true rfl, dL_chain_15, dL_chain_16⟩⟩
theorem hn_L_chain_0 : hndl M_L_chain 5 (exN 0) 2 := ⟨[⟨0, 10, 13, 18⟩], ⟨0, 10, 17, 13⟩, [], rfl, (fun z hz => by
    cases List.mem_singleton.mp hz
    exact ⟨Nat.succ_ne_zero _, "java/lang/IndexOutOfBoundsException", lw_cl_18, Or.inl ⟨rfl, rfl⟩⟩), rfl, Nat.succ_ne_zero _, lw_cl_13, lw_ca_0, Or.inr ⟨4, dL_chain_17, Nat.le_of_ble_eq_true rfl, dL_chain_19, dL_chain_20⟩⟩
theorem hn_L_chains_0 : hndl M_L_chains 4 (exN 0) 1 := ⟨[], ⟨0, 9, 12, 13⟩, [], rfl, (fun z hz => nomatch hz), rfl, Nat.succ_ne_zero _, lw_cl_13, lw_ca_0, Or.inl ⟨3, dL_chains_12, Nat.le_of_ble_eq_true rfl, dL_chains_13, dL_chains_14⟩⟩
theorem hn_L_isSafe_0 : hndl M_L_isSafe 4 (exN 0) 1 := ⟨[], ⟨0, 16, 19, 13⟩, [], rfl, (fun z hz => nomatch hz), rfl, Nat.succ_ne_zero _, lw_cl_13, lw_ca_0, Or.inl ⟨3, dL_isSafe_19, Nat.le_of_ble_eq_true rfl, dL_isSafe_20, dL_isSafe_21⟩⟩
theorem hn_L_answer_1 : hndl M_L_answer 4 (exN 1) 1 := ⟨[], ⟨0, 9, 12, 18⟩, [], rfl, (fun z hz => nomatch hz), rfl, Nat.succ_ne_zero _, lw_cl_18, lw_ca_1, Or.inl ⟨3, dL_answer_12, Nat.le_of_ble_eq_true rfl, dL_answer_13, dL_answer_14⟩⟩
theorem hn_L_threats_0 : hndl M_L_threats 4 (exN 0) 1 := ⟨[], ⟨0, 9, 12, 13⟩, [], rfl, (fun z hz => nomatch hz), rfl, Nat.succ_ne_zero _, lw_cl_13, lw_ca_0, Or.inl ⟨3, dL_threats_12, Nat.le_of_ble_eq_true rfl, dL_threats_13, dL_threats_14⟩⟩
theorem hn_L_threat_0 : hndl M_L_threat 5 (exN 0) 1 := ⟨[], ⟨0, 10, 13, 13⟩, [], rfl, (fun z hz => nomatch hz), rfl, Nat.succ_ne_zero _, lw_cl_13, lw_ca_0, Or.inr ⟨4, dL_threat_13, Nat.le_of_ble_eq_true rfl, dL_threat_15, dL_threat_16⟩⟩
theorem hn_L_distance_0 : hndl M_L_distance 4 (exN 0) 1 := ⟨[], ⟨0, 9, 12, 13⟩, [], rfl, (fun z hz => nomatch hz), rfl, Nat.succ_ne_zero _, lw_cl_13, lw_ca_0, Or.inl ⟨3, dL_distance_12, Nat.le_of_ble_eq_true rfl, dL_distance_13, dL_distance_14⟩⟩
theorem hn_L_through_0 : hndl M_L_through 5 (exN 0) 1 := ⟨[], ⟨0, 10, 13, 13⟩, [⟨0, 10, 17, 18⟩], rfl, (fun z hz => nomatch hz), rfl, Nat.succ_ne_zero _, lw_cl_13, lw_ca_0, Or.inr ⟨4, dL_through_13, Nat.le_of_ble_eq_true rfl, dL_through_15, dL_through_16⟩⟩
theorem hn_L_through_1 : hndl M_L_through 5 (exN 1) 2 := ⟨[⟨0, 10, 13, 13⟩], ⟨0, 10, 17, 18⟩, [], rfl, (fun z hz => by
    cases List.mem_singleton.mp hz
    exact ⟨Nat.succ_ne_zero _, "java/lang/IllegalArgumentException", lw_cl_13, Or.inr ⟨rfl, rfl⟩⟩), rfl, Nat.succ_ne_zero _, lw_cl_18, lw_ca_1, Or.inr ⟨4, dL_through_17, Nat.le_of_ble_eq_true rfl, dL_through_19, dL_through_20⟩⟩
theorem hn_L_useful_0 : hndl M_L_useful 4 (exN 0) 1 := ⟨[], ⟨0, 9, 12, 13⟩, [], rfl, (fun z hz => nomatch hz), rfl, Nat.succ_ne_zero _, lw_cl_13, lw_ca_0, Or.inl ⟨3, dL_useful_12, Nat.le_of_ble_eq_true rfl, dL_useful_13, dL_useful_14⟩⟩
theorem hn_L_potential_0 : hndl M_L_potential 7 (exN 0) 1 := ⟨[], ⟨0, 12, 15, 13⟩, [⟨0, 12, 19, 18⟩], rfl, (fun z hz => nomatch hz), rfl, Nat.succ_ne_zero _, lw_cl_13, lw_ca_0, Or.inr ⟨5, dL_potential_15, Nat.le_of_ble_eq_true rfl, dL_potential_17, dL_potential_18⟩⟩
theorem hn_L_potential_1 : hndl M_L_potential 7 (exN 1) 2 := ⟨[⟨0, 12, 15, 13⟩], ⟨0, 12, 19, 18⟩, [], rfl, (fun z hz => by
    cases List.mem_singleton.mp hz
    exact ⟨Nat.succ_ne_zero _, "java/lang/IllegalArgumentException", lw_cl_13, Or.inr ⟨rfl, rfl⟩⟩), rfl, Nat.succ_ne_zero _, lw_cl_18, lw_ca_1, Or.inr ⟨5, dL_potential_19, Nat.le_of_ble_eq_true rfl, dL_potential_21, dL_potential_22⟩⟩
theorem hn_L_current_0 : hndl M_L_current 5 (exN 0) 1 := ⟨[], ⟨0, 10, 13, 13⟩, [], rfl, (fun z hz => nomatch hz), rfl, Nat.succ_ne_zero _, lw_cl_13, lw_ca_0, Or.inr ⟨4, dL_current_13, Nat.le_of_ble_eq_true rfl, dL_current_15, dL_current_16⟩⟩
theorem hn_L_resistance_0 : hndl M_L_resistance 5 (exN 0) 1 := ⟨[], ⟨0, 10, 13, 13⟩, [], rfl, (fun z hz => nomatch hz), rfl, Nat.succ_ne_zero _, lw_cl_13, lw_ca_0, Or.inr ⟨4, dL_resistance_13, Nat.le_of_ble_eq_true rfl, dL_resistance_15, dL_resistance_16⟩⟩
theorem hn_L_balance_0 : hndl M_L_balance 4 (exN 0) 1 := ⟨[], ⟨0, 8, 11, 13⟩, [], rfl, (fun z hz => nomatch hz), rfl, Nat.succ_ne_zero _, lw_cl_13, lw_ca_0, Or.inl ⟨3, dL_balance_11, Nat.le_of_ble_eq_true rfl, dL_balance_12, dL_balance_13⟩⟩
theorem hn_L_filled_0 : hndl M_L_filled 4 (exN 0) 1 := ⟨[], ⟨0, 9, 12, 13⟩, [], rfl, (fun z hz => nomatch hz), rfl, Nat.succ_ne_zero _, lw_cl_13, lw_ca_0, Or.inl ⟨3, dL_filled_12, Nat.le_of_ble_eq_true rfl, dL_filled_13, dL_filled_14⟩⟩
theorem hn_L_fillings_0 : hndl M_L_fillings 7 (exN 0) 1 := ⟨[], ⟨0, 12, 15, 13⟩, [], rfl, (fun z hz => nomatch hz), rfl, Nat.succ_ne_zero _, lw_cl_13, lw_ca_0, Or.inr ⟨5, dL_fillings_15, Nat.le_of_ble_eq_true rfl, dL_fillings_17, dL_fillings_18⟩⟩
theorem hn_L_idle_0 : hndl M_L_idle 4 (exN 0) 1 := ⟨[], ⟨0, 9, 12, 13⟩, [], rfl, (fun z hz => nomatch hz), rfl, Nat.succ_ne_zero _, lw_cl_13, lw_ca_0, Or.inl ⟨3, dL_idle_12, Nat.le_of_ble_eq_true rfl, dL_idle_13, dL_idle_14⟩⟩
theorem hn_L_move_1 : hndl M_L_move 4 (exN 1) 1 := ⟨[], ⟨0, 9, 12, 18⟩, [], rfl, (fun z hz => nomatch hz), rfl, Nat.succ_ne_zero _, lw_cl_18, lw_ca_1, Or.inl ⟨3, dL_move_12, Nat.le_of_ble_eq_true rfl, dL_move_13, dL_move_14⟩⟩
theorem hn_L_put_1 : hndl M_L_put 5 (exN 1) 1 := ⟨[], ⟨0, 10, 13, 18⟩, [⟨0, 10, 17, 13⟩], rfl, (fun z hz => nomatch hz), rfl, Nat.succ_ne_zero _, lw_cl_18, lw_ca_1, Or.inr ⟨4, dL_put_13, Nat.le_of_ble_eq_true rfl, dL_put_15, dL_put_16⟩⟩
theorem hn_L_put_0 : hndl M_L_put 5 (exN 0) 2 := ⟨[⟨0, 10, 13, 18⟩], ⟨0, 10, 17, 13⟩, [], rfl, (fun z hz => by
    cases List.mem_singleton.mp hz
    exact ⟨Nat.succ_ne_zero _, "java/lang/IndexOutOfBoundsException", lw_cl_18, Or.inl ⟨rfl, rfl⟩⟩), rfl, Nat.succ_ne_zero _, lw_cl_13, lw_ca_0, Or.inr ⟨4, dL_put_17, Nat.le_of_ble_eq_true rfl, dL_put_19, dL_put_20⟩⟩
theorem hn_L_setTurn_0 : hndl M_L_setTurn 4 (exN 0) 1 := ⟨[], ⟨0, 9, 12, 13⟩, [], rfl, (fun z hz => nomatch hz), rfl, Nat.succ_ne_zero _, lw_cl_13, lw_ca_0, Or.inl ⟨3, dL_setTurn_12, Nat.le_of_ble_eq_true rfl, dL_setTurn_13, dL_setTurn_14⟩⟩
theorem hn_L_playForced_0 : hndl M_L_playForced 4 (exN 0) 1 := ⟨[], ⟨0, 9, 12, 13⟩, [], rfl, (fun z hz => nomatch hz), rfl, Nat.succ_ne_zero _, lw_cl_13, lw_ca_0, Or.inl ⟨3, dL_playForced_12, Nat.le_of_ble_eq_true rfl, dL_playForced_13, dL_playForced_14⟩⟩
theorem hn_L_writeRow_1 : hndl M_L_writeRow 4 (exN 1) 1 := ⟨[], ⟨0, 9, 12, 18⟩, [], rfl, (fun z hz => nomatch hz), rfl, Nat.succ_ne_zero _, lw_cl_18, lw_ca_1, Or.inl ⟨3, dL_writeRow_12, Nat.le_of_ble_eq_true rfl, dL_writeRow_13, dL_writeRow_14⟩⟩
theorem hn_L_writeCell_1 : hndl M_L_writeCell 4 (exN 1) 1 := ⟨[], ⟨0, 9, 12, 18⟩, [], rfl, (fun z hz => nomatch hz), rfl, Nat.succ_ne_zero _, lw_cl_18, lw_ca_1, Or.inl ⟨3, dL_writeCell_12, Nat.le_of_ble_eq_true rfl, dL_writeCell_13, dL_writeCell_14⟩⟩
theorem hn_L_saveSnapshot_0 : hndl M_L_saveSnapshot 4 (exN 0) 1 := ⟨[], ⟨0, 9, 12, 13⟩, [], rfl, (fun z hz => nomatch hz), rfl, Nat.succ_ne_zero _, lw_cl_13, lw_ca_0, Or.inl ⟨3, dL_saveSnapshot_12, Nat.le_of_ble_eq_true rfl, dL_saveSnapshot_13, dL_saveSnapshot_14⟩⟩
theorem hn_L_restoreSnapshot_0 : hndl M_L_restoreSnapshot 4 (exN 0) 1 := ⟨[], ⟨0, 9, 12, 13⟩, [], rfl, (fun z hz => nomatch hz), rfl, Nat.succ_ne_zero _, lw_cl_13, lw_ca_0, Or.inl ⟨3, dL_restoreSnapshot_12, Nat.le_of_ble_eq_true rfl, dL_restoreSnapshot_13, dL_restoreSnapshot_14⟩⟩
section LAWR
variable {C : Cx} {M : Mk} {d mc ms ne : Nat} {Qr : Option Value → Hp → Prop} {Qx : String → Hp → Prop} {nx k n pc : Nat} {lv lv' : List (Nat × Value)} {st stk : List Value} {h : Hp} {s : Sg} {β : Type} {o : β}
theorem w_wid {k2 n2 : Nat} (h1 : k ≤ k2) (h2 : n ≤ n2) (kk : ww C M d mc ms ne Qr Qx nx k2 n2 pc lv st h) : ww C M d mc ms ne Qr Qx nx k n pc lv st h := by
  intro p l e s m args below meth c Fin cz hr hx hzz H locs ls hP hS hL
  exact W.widen h1 h2 (kk p l e s m args below meth c Fin cz hr hx hzz H locs ls hP hS hL)
def dcmplI (x y : UInt64) : Int := (Op.cmpValue (FP.dcmp x y) .l).toInt
def fcmplI (x y : UInt32) : Int := (Op.cmpValue (FP.fcmp x y) .l).toInt
theorem x_dcmpl {x y : UInt64} (hd : decode (mB M) pc = .ok (.dcmp .l, 1)) (kk : ww C M d mc ms ne Qr Qx nx k n (pc + 1) lv (vi (dcmplI x y) :: st) h) : ww C M d mc ms ne Qr Qx nx k n pc lv (.double y :: .double x :: st) h :=
  w_dcmp hd (by rw [show vi (dcmplI x y) = _ from congrArg Value.int (Int32.ofInt_toInt _)] at kk; exact kk)
theorem x_fcmpl {x y : UInt32} (hd : decode (mB M) pc = .ok (.fcmp .l, 1)) (kk : ww C M d mc ms ne Qr Qx nx k n (pc + 1) lv (vi (fcmplI x y) :: st) h) : ww C M d mc ms ne Qr Qx nx k n pc lv (.float y :: .float x :: st) h :=
  w_fcmp hd (by rw [show vi (fcmplI x y) = _ from congrArg Value.int (Int32.ofInt_toInt _)] at kk; exact kk)
theorem x_SW_B (M' : Mk) (As : List Value) (st : List Value) {k2 n2 : Nat} {idx d' mc' ms' : Nat} {m : Option (Int × Sg)} {f : Int → Sg → Option β} (hs : bnd2 m f = some o) (hst : stk = As.reverse ++ st) (hd : decode (mB M) pc = .ok (.invokestatic idx, 3)) (hlk : LKH M M' idx As.length) (hdd : d' + 1 ≤ d) (hk : k + mc' ≤ k2) (hn : n + ms' ≤ n2) (hk2 : k2 ≤ mc) (hn2 : n2 ≤ ms) (hw : (st.map fun v => v.category).sum ≤ 8)
    (hm : ∀ r, m = some r → mmH C M' d' mc' ms' nx nx As (hp nx s) (QI nx r.2 r.1) XF) (kk : ∀ r s1, m = some (r, s1) → f r s1 = some o → ww C M d mc ms ne Qr Qx nx k2 n2 (pc + 3) lv (vi r :: st) (hp nx s1)) : ww C M d mc ms ne Qr Qx nx k n pc lv stk (hp nx s) := by
  subst hst
  refine bnd2_e hs fun r s1 hr9 hs1 => ?_
  intro p l e s9 m9 args below meth c Fin cz hr hx hzz H locs ls hP hS hL
  have hrm : (rmF d' mc' ms').frames + 1 ≤ (rmF d mc ms).frames ∧ 8 + (mL M' + 11) + (rmF d' mc' ms').locals ≤ (rmF d mc ms).locals := ⟨hdd, by
    have := hlk.1.2.2.2
    show 8 + (mL M' + 11) + 70 * d' ≤ 70 * d
    omega⟩
  have hG2 : GoodIn lw_all (va_wsS (mY M).cls idx (mY M') (mWH M')) := by
    refine goodAll fun w hw9 => ?_
    simp only [va_wsS, List.mem_append, List.mem_cons, List.not_mem_nil, or_false] at hw9
    rcases hw9 with (rfl | rfl | rfl) | hw9
    · exact hlk.2.1
    · exact hlk.2.2
    · exact hlk.1.1
    · exact mWH_sub hlk.1.2.1 w hw9
  have hcw := vx_cwSW (ret := mR M') (rm := rmF d' mc' ms') (R := rmF d mc ms) (mc := mc') (ms := ms') (maxL := mL M') (bytes := mB M') (hh := mH M') As.length cz.2.1 hG2 rfl rfl rfl hlk.1.2.2.1 hrm
  have hfix : CallFix p m9 c (mB M) (mL M) s9 args lw_all (mY M).cls := ⟨cz.1.1, cz.1.2.1, cz.1.2.2.2.1, cz.1.2.2.2.2, cz.2.1⟩
  refine hx_fin (vx_runSX (As := As.map (up C)) (rest := st.map (up C)) hfix (hm _ hr9 l cz.2.2.1.2.2.1) hcw ⟨PB_blind, fun U hU hW9 => ⟨rfl, PB_now cz hP hS U hU hW9⟩⟩ rfl (List.length_map ..) hL.1 (by show (As.reverse ++ st).map (up C) = _; rw [List.map_append, List.map_reverse]) (lv_room (by rw [up_sum]; exact hw)) hd ⟨Nat.le_trans hk hk2, Nat.le_trans hn hn2⟩) hS (fun E ce q h' H1 locs1 g1 => g1.elim) (fun v h' H1 locs1 g1 g2 g3 => ?_)
  obtain ⟨rfl, rfl⟩ := g1
  exact W.widen hk hn (kk r s1 hr9 hs1 p l e s9 m9 args below meth c Fin cz hr hx hzz H1 locs1 ls g2 g3 hL)
theorem x_V_BF (M' : Mk) (As : List Value) (st : List Value) {idx d' b ci : Nat} {m : Option (UInt32 × Sg)} {f : UInt32 → Sg → Option β} (hs : bnd2 m f = some o) (hst : stk = As.reverse ++ .ref b :: st) (hd : decode (mB M) pc = .ok (.invokevirtual idx, 3)) (hlk : LKV M M' idx As.length) (hb : b < nx) (hsh : shp b = some (.inl ci)) (hci : cR ci = (mY M').cls) (hdd : d' + 1 ≤ d) (hk : k ≤ mc) (hn : n ≤ ms) (hw : (st.map fun v => v.category).sum ≤ 8)
    (hm : ∀ r, m = some r → mm C M' d' 0 0 nx nx (.ref b :: As) (hp nx s) (QF nx r.2 r.1) XF) (kk : ∀ r s1, m = some (r, s1) → f r s1 = some o → ww C M d mc ms ne Qr Qx nx k n (pc + 3) lv (.float r :: st) (hp nx s1)) : ww C M d mc ms ne Qr Qx nx k n pc lv stk (hp nx s) := by
  subst hst
  refine bnd2_e hs fun r s1 hr hs => ?_
  refine w_callV M' As hd hlk hb hsh hci hdd hk hn hw (hm (r, s1) hr) XOK.no (fun v h' hq => ?_)
  obtain ⟨rfl, rfl⟩ := hq
  exact kk r s1 hr hs
theorem x_V_BD (M' : Mk) (As : List Value) (st : List Value) {idx d' b ci : Nat} {m : Option (UInt64 × Sg)} {f : UInt64 → Sg → Option β} (hs : bnd2 m f = some o) (hst : stk = As.reverse ++ .ref b :: st) (hd : decode (mB M) pc = .ok (.invokevirtual idx, 3)) (hlk : LKV M M' idx As.length) (hb : b < nx) (hsh : shp b = some (.inl ci)) (hci : cR ci = (mY M').cls) (hdd : d' + 1 ≤ d) (hk : k ≤ mc) (hn : n ≤ ms) (hw : (st.map fun v => v.category).sum ≤ 8)
    (hm : ∀ r, m = some r → mm C M' d' 0 0 nx nx (.ref b :: As) (hp nx s) (QD nx r.2 r.1) XF) (kk : ∀ r s1, m = some (r, s1) → f r s1 = some o → ww C M d mc ms ne Qr Qx nx k n (pc + 3) lv (.double r :: st) (hp nx s1)) : ww C M d mc ms ne Qr Qx nx k n pc lv stk (hp nx s) := by
  subst hst
  refine bnd2_e hs fun r s1 hr hs => ?_
  refine w_callV M' As hd hlk hb hsh hci hdd hk hn hw (hm (r, s1) hr) XOK.no (fun v h' hq => ?_)
  obtain ⟨rfl, rfl⟩ := hq
  exact kk r s1 hr hs
end LAWR
noncomputable def La_size (x1 : Int) (s : Sg) : Option (Int × Sg) :=
  hcat (Hx_size x1 s) 1 0 fun y1 s2 =>
  grd (R y1) <|
  grd (0 ≤ 0 ∧ 0 < 1) <|
  lett (sl s2 100 0 y1) fun s5 =>
  some (0, s5)
noncomputable def La_cell (x1 : Int) (s : Sg) : Option (Int × Sg) :=
  hcat (Hx_cell x1 s) 0 1 fun y1 s2 =>
  grd (R y1) <|
  grd (0 ≤ 0 ∧ 0 < 1) <|
  lett (sl s2 100 0 y1) fun s5 =>
  some (0, s5)
noncomputable def La_neighbour (x1 : Int) (x2 : Int) (s : Sg) : Option (Int × Sg) :=
  hcat (Hx_neighbour x1 x2 s) 0 1 fun y1 s2 =>
  grd (R y1) <|
  grd (0 ≤ 0 ∧ 0 < 1) <|
  lett (sl s2 100 0 y1) fun s5 =>
  some (0, s5)
noncomputable def La_group (x1 : Int) (x2 : Int) (s : Sg) : Option (Int × Sg) :=
  hcat (Hx_group x1 x2 s) 2 1 fun y1 s2 =>
  grd (R y1) <|
  grd (0 ≤ 0 ∧ 0 < 1) <|
  lett (sl s2 100 0 y1) fun s5 =>
  some (0, s5)
noncomputable def La_groups (x1 : Int) (s : Sg) : Option (Int × Sg) :=
  hcat (Hx_groups x1 s) 1 0 fun y1 s2 =>
  grd (R y1) <|
  grd (0 ≤ 0 ∧ 0 < 1) <|
  lett (sl s2 100 0 y1) fun s5 =>
  some (0, s5)
noncomputable def La_largest (x1 : Int) (s : Sg) : Option (Int × Sg) :=
  hcat (Hx_largest x1 s) 1 0 fun y1 s2 =>
  grd (R y1) <|
  grd (0 ≤ 0 ∧ 0 < 1) <|
  lett (sl s2 100 0 y1) fun s5 =>
  some (0, s5)
noncomputable def La_isBridge_b16 (t1 : Int) (t2 : Int) (s : Sg) : Option (Int × Sg) :=
  grd (0 ≤ t1 ∧ t1 < 1) <|
  lett (sl s 100 t1.toNat t2) fun s4 =>
  some (0, s4)
noncomputable def La_isBridge (x1 : Int) (x2 : Int) (s : Sg) : Option (Int × Sg) :=
  hcat (Hx_isBridge x1 x2 s) 0 1 fun y1 s2 =>
  ifEq y1 0
    (La_isBridge_b16 0 0 s2)
    (La_isBridge_b16 0 1 s2)
noncomputable def La_bridges (x1 : Int) (x2 : Int) (s : Sg) : Option (Int × Sg) :=
  hcat (Hx_bridges x1 x2 s) 1 0 fun y1 s2 =>
  grd (R y1) <|
  grd (0 ≤ 0 ∧ 0 < 1) <|
  lett (sl s2 100 0 y1) fun s5 =>
  some (0, s5)
noncomputable def La_bridge (x1 : Int) (x2 : Int) (x3 : Int) (s : Sg) : Option (Int × Sg) :=
  hcat (Hx_bridge x1 x2 x3 s) 1 0 fun y1 s2 =>
  grd (R y1) <|
  grd (0 ≤ 0 ∧ 0 < 1) <|
  lett (sl s2 100 0 y1) fun s5 =>
  some (0, s5)
noncomputable def La_chain (x1 : Int) (x2 : Int) (s : Sg) : Option (Int × Sg) :=
  hcat (Hx_chain x1 x2 s) 2 1 fun y1 s2 =>
  grd (R y1) <|
  grd (0 ≤ 0 ∧ 0 < 1) <|
  lett (sl s2 100 0 y1) fun s5 =>
  some (0, s5)
noncomputable def La_chains (x1 : Int) (s : Sg) : Option (Int × Sg) :=
  hcat (Hx_chains x1 s) 1 0 fun y1 s2 =>
  grd (R y1) <|
  grd (0 ≤ 0 ∧ 0 < 1) <|
  lett (sl s2 100 0 y1) fun s5 =>
  some (0, s5)
noncomputable def La_isSafe_b15 (t1 : Int) (t2 : Int) (s : Sg) : Option (Int × Sg) :=
  grd (0 ≤ t1 ∧ t1 < 1) <|
  lett (sl s 100 t1.toNat t2) fun s4 =>
  some (0, s4)
noncomputable def La_isSafe (x1 : Int) (s : Sg) : Option (Int × Sg) :=
  hcat (Hx_isSafe x1 s) 1 0 fun y1 s2 =>
  ifEq y1 0
    (La_isSafe_b15 0 0 s2)
    (La_isSafe_b15 0 1 s2)
noncomputable def La_answer (x1 : Int) (s : Sg) : Option (Int × Sg) :=
  hcat (Hx_answer x1 s) 0 1 fun y1 s2 =>
  grd (R y1) <|
  grd (0 ≤ 0 ∧ 0 < 1) <|
  lett (sl s2 100 0 y1) fun s5 =>
  some (0, s5)
noncomputable def La_threats (x1 : Int) (s : Sg) : Option (Int × Sg) :=
  hcat (Hx_threats x1 s) 1 0 fun y1 s2 =>
  grd (R y1) <|
  grd (0 ≤ 0 ∧ 0 < 1) <|
  lett (sl s2 100 0 y1) fun s5 =>
  some (0, s5)
noncomputable def La_threat (x1 : Int) (x2 : Int) (s : Sg) : Option (Int × Sg) :=
  hcat (Hx_threat x1 x2 s) 1 0 fun y1 s2 =>
  grd (R y1) <|
  grd (0 ≤ 0 ∧ 0 < 1) <|
  lett (sl s2 100 0 y1) fun s5 =>
  some (0, s5)
noncomputable def La_distance (x1 : Int) (s : Sg) : Option (Int × Sg) :=
  hcat (Hx_distance x1 s) 1 0 fun y1 s2 =>
  grd (R y1) <|
  grd (0 ≤ 0 ∧ 0 < 1) <|
  lett (sl s2 100 0 y1) fun s5 =>
  some (0, s5)
noncomputable def La_through (x1 : Int) (x2 : Int) (s : Sg) : Option (Int × Sg) :=
  hcat (Hx_through x1 x2 s) 1 2 fun y1 s2 =>
  grd (R y1) <|
  grd (0 ≤ 0 ∧ 0 < 1) <|
  lett (sl s2 100 0 y1) fun s5 =>
  some (0, s5)
noncomputable def La_useful (x1 : Int) (s : Sg) : Option (Int × Sg) :=
  hcat (Hx_useful x1 s) 1 0 fun y1 s2 =>
  grd (R y1) <|
  grd (0 ≤ 0 ∧ 0 < 1) <|
  lett (sl s2 100 0 y1) fun s5 =>
  some (0, s5)
noncomputable def La_potential (x1 : Int) (x2 : Int) (x3 : Int) (s : Sg) : Option (Int × Sg) :=
  hcat (Hx_potential x1 x2 x3 s) 1 2 fun y1 s2 =>
  grd (R y1) <|
  grd (0 ≤ 0 ∧ 0 < 1) <|
  lett (sl s2 100 0 y1) fun s5 =>
  some (0, s5)
noncomputable def La_current (x1 : Int) (x2 : Int) (s : Sg) : Option (Int × Sg) :=
  hcat (Hx_current x1 x2 s) 1 0 fun y1 s2 =>
  grd (R y1) <|
  grd (0 ≤ 0 ∧ 0 < 1) <|
  lett (sl s2 100 0 y1) fun s5 =>
  some (0, s5)
noncomputable def La_resistance (x1 : Int) (x2 : Int) (s : Sg) : Option (Int × Sg) :=
  hcat (Hx_resistance x1 x2 s) 1 0 fun y1 s2 =>
  grd (vf_n64 (FP.f2d y1)) <|
  grd (0 ≤ 0 ∧ 0 < 1) <|
  lett (sd s2 101 0 (FP.f2d y1)) fun s5 =>
  some (0, s5)
noncomputable def La_balance (x1 : Int) (s : Sg) : Option (Int × Sg) :=
  hcat (Hx_balance x1 s) 1 0 fun y1 s2 =>
  grd (0 ≤ 0 ∧ 0 < 1) <|
  lett (sd s2 101 0 y1) fun s4 =>
  some (0, s4)
noncomputable def La_filled (x1 : Int) (s : Sg) : Option (Int × Sg) :=
  hcat (Hx_filled x1 s) 1 0 fun y1 s2 =>
  grd (R y1) <|
  grd (0 ≤ 0 ∧ 0 < 1) <|
  lett (sl s2 100 0 y1) fun s5 =>
  some (0, s5)
noncomputable def La_fillings (x1 : Int) (x2 : Int) (x3 : Int) (s : Sg) : Option (Int × Sg) :=
  hcat (Hx_fillings x1 x2 x3 s) 1 0 fun y1 s2 =>
  grd (R y1) <|
  grd (0 ≤ 0 ∧ 0 < 1) <|
  lett (sl s2 100 0 y1) fun s5 =>
  some (0, s5)
noncomputable def La_idle (x1 : Int) (s : Sg) : Option (Int × Sg) :=
  hcat (Hx_idle x1 s) 1 0 fun y1 s2 =>
  grd (R y1) <|
  grd (0 ≤ 0 ∧ 0 < 1) <|
  lett (sl s2 100 0 y1) fun s5 =>
  some (0, s5)
noncomputable def La_move (x1 : Int) (s : Sg) : Option (Int × Sg) :=
  hcat (Hx_move x1 s) 0 1 fun y1 s2 =>
  grd (R y1) <|
  grd (0 ≤ 0 ∧ 0 < 1) <|
  lett (sl s2 100 0 y1) fun s5 =>
  some (0, s5)
noncomputable def La_put (x1 : Int) (x2 : Int) (s : Sg) : Option (Int × Sg) :=
  hcat (Hx_put x1 x2 s) 2 1 fun y1 s2 =>
  grd (R y1) <|
  grd (0 ≤ 0 ∧ 0 < 1) <|
  lett (sl s2 100 0 y1) fun s5 =>
  some (0, s5)
noncomputable def La_setTurn (x1 : Int) (s : Sg) : Option (Int × Sg) :=
  hcat (Hx_setTurn x1 s) 1 0 fun y1 s2 =>
  grd (R y1) <|
  grd (0 ≤ 0 ∧ 0 < 1) <|
  lett (sl s2 100 0 y1) fun s5 =>
  some (0, s5)
noncomputable def La_playForced (x1 : Int) (s : Sg) : Option (Int × Sg) :=
  hcat (Hx_playForced x1 s) 1 0 fun y1 s2 =>
  grd (R y1) <|
  grd (0 ≤ 0 ∧ 0 < 1) <|
  lett (sl s2 100 0 y1) fun s5 =>
  some (0, s5)
noncomputable def La_writeRow (x1 : Int) (s : Sg) : Option (Int × Sg) :=
  hcat (Hx_writeRow x1 s) 0 1 fun y1 s2 =>
  grd (R y1) <|
  grd (0 ≤ 0 ∧ 0 < 1) <|
  lett (sl s2 100 0 y1) fun s5 =>
  some (0, s5)
noncomputable def La_writeCell (x1 : Int) (s : Sg) : Option (Int × Sg) :=
  hcat (Hx_writeCell x1 s) 0 1 fun y1 s2 =>
  grd (R y1) <|
  grd (0 ≤ 0 ∧ 0 < 1) <|
  lett (sl s2 100 0 y1) fun s5 =>
  some (0, s5)
noncomputable def La_saveSnapshot (x1 : Int) (s : Sg) : Option (Int × Sg) :=
  hcat (Hx_saveSnapshot x1 s) 1 0 fun y1 s2 =>
  grd (R y1) <|
  grd (0 ≤ 0 ∧ 0 < 1) <|
  lett (sl s2 100 0 y1) fun s5 =>
  some (0, s5)
noncomputable def La_restoreSnapshot (x1 : Int) (s : Sg) : Option (Int × Sg) :=
  hcat (Hx_restoreSnapshot x1 s) 1 0 fun y1 s2 =>
  grd (R y1) <|
  grd (0 ≤ 0 ∧ 0 < 1) <|
  lett (sl s2 100 0 y1) fun s5 =>
  some (0, s5)
noncomputable def La_law_b2707 (L : Nat) (x5 : Int) (s : Sg) : Option (((Int × Sg) ⊕ (Sg))) :=
  some (.inl ((x5 + 4), s))
noncomputable def La_law_b264 (L : Nat) (x5 : Int) (s : Sg) : Option (((Int × Sg) ⊕ (Sg))) :=
  grd (0 ≤ (x5 + 1) ∧ (x5 + 1) < (L : Int)) <|
  grd (R (gi s 1200 (x5 + 1).toNat)) <|
  grd (0 ≤ (x5 + 2) ∧ (x5 + 2) < (L : Int)) <|
  grd (R (gi s 1200 (x5 + 2).toNat)) <|
  bnd2 (Hx_append (lorI (lshlI (gi s 1200 (x5 + 1).toNat) 32) (landI (gi s 1200 (x5 + 2).toNat) 4294967295)) s) fun y6 s7 =>
  grd (0 ≤ (x5 + 1) ∧ (x5 + 1) < (L : Int)) <|
  grd (R (gi s7 1200 (x5 + 1).toNat)) <|
  grd (0 ≤ (x5 + 2) ∧ (x5 + 2) < (L : Int)) <|
  grd (R (gi s7 1200 (x5 + 2).toNat)) <|
  bnd2 (Mo_append (lorI (lshlI (gi s7 1200 (x5 + 1).toNat) 32) (landI (gi s7 1200 (x5 + 2).toNat) 4294967295)) s7) fun y12 s13 =>
  ifEq y6 y12
    (La_law_b2707 L x5 s13)
    (none)
noncomputable def La_law_b321 (L : Nat) (x5 : Int) (s : Sg) : Option (((Int × Sg) ⊕ (Sg))) :=
  bnd2 (Hx_load s) fun y16 s17 =>
  bnd2 (Mo_load s17) fun y18 s19 =>
  ifEq y16 y18
    (La_law_b2707 L x5 s19)
    (none)
noncomputable def La_law_b334 (L : Nat) (x5 : Int) (s : Sg) : Option (((Int × Sg) ⊕ (Sg))) :=
  bnd (Hx_loadError s) fun y22 =>
  bnd2 (Mo_loadError s) fun y23 s24 =>
  ifEq y22 y23
    (La_law_b2707 L x5 s24)
    (none)
noncomputable def La_law_b347 (L : Nat) (x5 : Int) (s : Sg) : Option (((Int × Sg) ⊕ (Sg))) :=
  bnd (Hx_loadStatement s) fun y27 =>
  bnd2 (Mo_loadStatement s) fun y28 s29 =>
  ifEq y27 y28
    (La_law_b2707 L x5 s29)
    (none)
noncomputable def La_law_b413 (L : Nat) (x5 : Int) (s : Sg) : Option (((Int × Sg) ⊕ (Sg))) :=
  La_law_b2707 L x5 s
noncomputable def La_law_b360 (L : Nat) (x5 : Int) (s : Sg) : Option (((Int × Sg) ⊕ (Sg))) :=
  grd (0 ≤ (x5 + 1) ∧ (x5 + 1) < (L : Int)) <|
  bnd2 (La_size (gi s 1200 (x5 + 1).toNat) s) fun y33 s34 =>
  grd (0 ≤ (x5 + 1) ∧ (x5 + 1) < (L : Int)) <|
  bnd2 (Mo_size (gi s34 1200 (x5 + 1).toNat) s34) fun y36 s37 =>
  bnd (Mo_thrown s37) fun y38 =>
  ifEq y38 y33
    (ifEq y33 0
      (grd (0 ≤ 0 ∧ 0 < 1) <|
      grd (R y36) <|
      grd (RL64 (gl s37 100 0) ∧ RL64 y36) <|
      ifEq (lcmpI (gl s37 100 0) y36) 0
        (La_law_b413 L x5 s37)
        (none))
      (La_law_b413 L x5 s37))
    (none)
noncomputable def La_law_b469 (L : Nat) (x5 : Int) (s : Sg) : Option (((Int × Sg) ⊕ (Sg))) :=
  La_law_b2707 L x5 s
noncomputable def La_law_b416 (L : Nat) (x5 : Int) (s : Sg) : Option (((Int × Sg) ⊕ (Sg))) :=
  grd (0 ≤ (x5 + 1) ∧ (x5 + 1) < (L : Int)) <|
  bnd2 (La_cell (gi s 1200 (x5 + 1).toNat) s) fun y45 s46 =>
  grd (0 ≤ (x5 + 1) ∧ (x5 + 1) < (L : Int)) <|
  bnd2 (Mo_cell (gi s46 1200 (x5 + 1).toNat) s46) fun y48 s49 =>
  bnd (Mo_thrown s49) fun y50 =>
  ifEq y50 y45
    (ifEq y45 0
      (grd (0 ≤ 0 ∧ 0 < 1) <|
      grd (R y48) <|
      grd (RL64 (gl s49 100 0) ∧ RL64 y48) <|
      ifEq (lcmpI (gl s49 100 0) y48) 0
        (La_law_b469 L x5 s49)
        (none))
      (La_law_b469 L x5 s49))
    (none)
noncomputable def La_law_b537 (L : Nat) (x5 : Int) (s : Sg) : Option (((Int × Sg) ⊕ (Sg))) :=
  La_law_b2707 L x5 s
noncomputable def La_law_b472 (L : Nat) (x5 : Int) (s : Sg) : Option (((Int × Sg) ⊕ (Sg))) :=
  grd (0 ≤ (x5 + 1) ∧ (x5 + 1) < (L : Int)) <|
  grd (0 ≤ (x5 + 2) ∧ (x5 + 2) < (L : Int)) <|
  bnd2 (La_neighbour (gi s 1200 (x5 + 1).toNat) (gi s 1200 (x5 + 2).toNat) s) fun y58 s59 =>
  grd (0 ≤ (x5 + 1) ∧ (x5 + 1) < (L : Int)) <|
  grd (0 ≤ (x5 + 2) ∧ (x5 + 2) < (L : Int)) <|
  bnd2 (Mo_neighbour (gi s59 1200 (x5 + 1).toNat) (gi s59 1200 (x5 + 2).toNat) s59) fun y62 s63 =>
  bnd (Mo_thrown s63) fun y64 =>
  ifEq y64 y58
    (ifEq y58 0
      (grd (0 ≤ 0 ∧ 0 < 1) <|
      grd (R y62) <|
      grd (RL64 (gl s63 100 0) ∧ RL64 y62) <|
      ifEq (lcmpI (gl s63 100 0) y62) 0
        (La_law_b537 L x5 s63)
        (none))
      (La_law_b537 L x5 s63))
    (none)
noncomputable def La_law_b605 (L : Nat) (x5 : Int) (s : Sg) : Option (((Int × Sg) ⊕ (Sg))) :=
  La_law_b2707 L x5 s
noncomputable def La_law_b540 (L : Nat) (x5 : Int) (s : Sg) : Option (((Int × Sg) ⊕ (Sg))) :=
  grd (0 ≤ (x5 + 1) ∧ (x5 + 1) < (L : Int)) <|
  grd (0 ≤ (x5 + 2) ∧ (x5 + 2) < (L : Int)) <|
  bnd2 (La_group (gi s 1200 (x5 + 1).toNat) (gi s 1200 (x5 + 2).toNat) s) fun y72 s73 =>
  grd (0 ≤ (x5 + 1) ∧ (x5 + 1) < (L : Int)) <|
  grd (0 ≤ (x5 + 2) ∧ (x5 + 2) < (L : Int)) <|
  bnd2 (Mo_group (gi s73 1200 (x5 + 1).toNat) (gi s73 1200 (x5 + 2).toNat) s73) fun y76 s77 =>
  bnd (Mo_thrown s77) fun y78 =>
  ifEq y78 y72
    (ifEq y72 0
      (grd (0 ≤ 0 ∧ 0 < 1) <|
      grd (R y76) <|
      grd (RL64 (gl s77 100 0) ∧ RL64 y76) <|
      ifEq (lcmpI (gl s77 100 0) y76) 0
        (La_law_b605 L x5 s77)
        (none))
      (La_law_b605 L x5 s77))
    (none)
noncomputable def La_law_b661 (L : Nat) (x5 : Int) (s : Sg) : Option (((Int × Sg) ⊕ (Sg))) :=
  La_law_b2707 L x5 s
noncomputable def La_law_b608 (L : Nat) (x5 : Int) (s : Sg) : Option (((Int × Sg) ⊕ (Sg))) :=
  grd (0 ≤ (x5 + 1) ∧ (x5 + 1) < (L : Int)) <|
  bnd2 (La_groups (gi s 1200 (x5 + 1).toNat) s) fun y85 s86 =>
  grd (0 ≤ (x5 + 1) ∧ (x5 + 1) < (L : Int)) <|
  bnd2 (Mo_groups (gi s86 1200 (x5 + 1).toNat) s86) fun y88 s89 =>
  bnd (Mo_thrown s89) fun y90 =>
  ifEq y90 y85
    (ifEq y85 0
      (grd (0 ≤ 0 ∧ 0 < 1) <|
      grd (R y88) <|
      grd (RL64 (gl s89 100 0) ∧ RL64 y88) <|
      ifEq (lcmpI (gl s89 100 0) y88) 0
        (La_law_b661 L x5 s89)
        (none))
      (La_law_b661 L x5 s89))
    (none)
noncomputable def La_law_b717 (L : Nat) (x5 : Int) (s : Sg) : Option (((Int × Sg) ⊕ (Sg))) :=
  La_law_b2707 L x5 s
noncomputable def La_law_b664 (L : Nat) (x5 : Int) (s : Sg) : Option (((Int × Sg) ⊕ (Sg))) :=
  grd (0 ≤ (x5 + 1) ∧ (x5 + 1) < (L : Int)) <|
  bnd2 (La_largest (gi s 1200 (x5 + 1).toNat) s) fun y97 s98 =>
  grd (0 ≤ (x5 + 1) ∧ (x5 + 1) < (L : Int)) <|
  bnd2 (Mo_largest (gi s98 1200 (x5 + 1).toNat) s98) fun y100 s101 =>
  bnd (Mo_thrown s101) fun y102 =>
  ifEq y102 y97
    (ifEq y97 0
      (grd (0 ≤ 0 ∧ 0 < 1) <|
      grd (R y100) <|
      grd (RL64 (gl s101 100 0) ∧ RL64 y100) <|
      ifEq (lcmpI (gl s101 100 0) y100) 0
        (La_law_b717 L x5 s101)
        (none))
      (La_law_b717 L x5 s101))
    (none)
noncomputable def La_law_b792 (L : Nat) (x5 : Int) (s : Sg) : Option (((Int × Sg) ⊕ (Sg))) :=
  La_law_b2707 L x5 s
noncomputable def La_law_b786 (L : Nat) (x5 : Int) (t0 : Int) (t1 : Int) (s : Sg) : Option (((Int × Sg) ⊕ (Sg))) :=
  grd (RL64 t0 ∧ RL64 t1) <|
  ifEq (lcmpI t0 t1) 0
    (La_law_b792 L x5 s)
    (none)
noncomputable def La_law_b720 (L : Nat) (x5 : Int) (s : Sg) : Option (((Int × Sg) ⊕ (Sg))) :=
  grd (0 ≤ (x5 + 1) ∧ (x5 + 1) < (L : Int)) <|
  grd (0 ≤ (x5 + 2) ∧ (x5 + 2) < (L : Int)) <|
  bnd2 (La_isBridge (gi s 1200 (x5 + 1).toNat) (gi s 1200 (x5 + 2).toNat) s) fun y110 s111 =>
  grd (0 ≤ (x5 + 1) ∧ (x5 + 1) < (L : Int)) <|
  grd (0 ≤ (x5 + 2) ∧ (x5 + 2) < (L : Int)) <|
  bnd2 (Mo_isBridge (gi s111 1200 (x5 + 1).toNat) (gi s111 1200 (x5 + 2).toNat) s111) fun y114 s115 =>
  bnd (Mo_thrown s115) fun y116 =>
  ifEq y116 y110
    (ifEq y110 0
      (grd (0 ≤ 0 ∧ 0 < 1) <|
      ifEq y114 0
        (La_law_b786 L x5 (gl s115 100 0) 0 s115)
        (La_law_b786 L x5 (gl s115 100 0) 1 s115))
      (La_law_b792 L x5 s115))
    (none)
noncomputable def La_law_b876 (L : Nat) (x5 : Int) (s : Sg) : Option (((Int × Sg) ⊕ (Sg))) :=
  La_law_b2707 L x5 s
noncomputable def La_law_b843 (L : Nat) (x5 : Int) (x6 : Int) (t1 : Int) (t2 : Int) (s : Sg) : Option (((Int × Sg) ⊕ (Sg))) :=
  bnd2 (Mo_bridges t1 t2 s) fun y127 s128 =>
  bnd (Mo_thrown s128) fun y129 =>
  ifEq y129 x6
    (ifEq x6 0
      (grd (0 ≤ 0 ∧ 0 < 1) <|
      grd (R y127) <|
      grd (RL64 (gl s128 100 0) ∧ RL64 y127) <|
      ifEq (lcmpI (gl s128 100 0) y127) 0
        (La_law_b876 L x5 s128)
        (none))
      (La_law_b876 L x5 s128))
    (none)
noncomputable def La_law_b816 (L : Nat) (x5 : Int) (t1 : Int) (t2 : Int) (s : Sg) : Option (((Int × Sg) ⊕ (Sg))) :=
  bnd2 (La_bridges t1 t2 s) fun y123 s124 =>
  grd (0 ≤ (x5 + 1) ∧ (x5 + 1) < (L : Int)) <|
  grd (0 ≤ (x5 + 2) ∧ (x5 + 2) < (L : Int)) <|
  ifEq (gi s124 1200 (x5 + 2).toNat) 0
    (La_law_b843 L x5 y123 (gi s124 1200 (x5 + 1).toNat) 0 s124)
    (La_law_b843 L x5 y123 (gi s124 1200 (x5 + 1).toNat) 1 s124)
noncomputable def La_law_b795 (L : Nat) (x5 : Int) (s : Sg) : Option (((Int × Sg) ⊕ (Sg))) :=
  grd (0 ≤ (x5 + 1) ∧ (x5 + 1) < (L : Int)) <|
  grd (0 ≤ (x5 + 2) ∧ (x5 + 2) < (L : Int)) <|
  ifEq (gi s 1200 (x5 + 2).toNat) 0
    (La_law_b816 L x5 (gi s 1200 (x5 + 1).toNat) 0 s)
    (La_law_b816 L x5 (gi s 1200 (x5 + 1).toNat) 1 s)
noncomputable def La_law_b956 (L : Nat) (x5 : Int) (s : Sg) : Option (((Int × Sg) ⊕ (Sg))) :=
  La_law_b2707 L x5 s
noncomputable def La_law_b879 (L : Nat) (x5 : Int) (s : Sg) : Option (((Int × Sg) ⊕ (Sg))) :=
  grd (0 ≤ (x5 + 1) ∧ (x5 + 1) < (L : Int)) <|
  grd (0 ≤ (x5 + 2) ∧ (x5 + 2) < (L : Int)) <|
  grd (0 ≤ (x5 + 3) ∧ (x5 + 3) < (L : Int)) <|
  bnd2 (La_bridge (gi s 1200 (x5 + 1).toNat) (gi s 1200 (x5 + 2).toNat) (gi s 1200 (x5 + 3).toNat) s) fun y138 s139 =>
  grd (0 ≤ (x5 + 1) ∧ (x5 + 1) < (L : Int)) <|
  grd (0 ≤ (x5 + 2) ∧ (x5 + 2) < (L : Int)) <|
  grd (0 ≤ (x5 + 3) ∧ (x5 + 3) < (L : Int)) <|
  bnd2 (Mo_bridge (gi s139 1200 (x5 + 1).toNat) (gi s139 1200 (x5 + 2).toNat) (gi s139 1200 (x5 + 3).toNat) s139) fun y143 s144 =>
  bnd (Mo_thrown s144) fun y145 =>
  ifEq y145 y138
    (ifEq y138 0
      (grd (0 ≤ 0 ∧ 0 < 1) <|
      grd (R y143) <|
      grd (RL64 (gl s144 100 0) ∧ RL64 y143) <|
      ifEq (lcmpI (gl s144 100 0) y143) 0
        (La_law_b956 L x5 s144)
        (none))
      (La_law_b956 L x5 s144))
    (none)
noncomputable def La_law_b1024 (L : Nat) (x5 : Int) (s : Sg) : Option (((Int × Sg) ⊕ (Sg))) :=
  La_law_b2707 L x5 s
noncomputable def La_law_b959 (L : Nat) (x5 : Int) (s : Sg) : Option (((Int × Sg) ⊕ (Sg))) :=
  grd (0 ≤ (x5 + 1) ∧ (x5 + 1) < (L : Int)) <|
  grd (0 ≤ (x5 + 2) ∧ (x5 + 2) < (L : Int)) <|
  bnd2 (La_chain (gi s 1200 (x5 + 1).toNat) (gi s 1200 (x5 + 2).toNat) s) fun y153 s154 =>
  grd (0 ≤ (x5 + 1) ∧ (x5 + 1) < (L : Int)) <|
  grd (0 ≤ (x5 + 2) ∧ (x5 + 2) < (L : Int)) <|
  bnd2 (Mo_chain (gi s154 1200 (x5 + 1).toNat) (gi s154 1200 (x5 + 2).toNat) s154) fun y157 s158 =>
  bnd (Mo_thrown s158) fun y159 =>
  ifEq y159 y153
    (ifEq y153 0
      (grd (0 ≤ 0 ∧ 0 < 1) <|
      grd (R y157) <|
      grd (RL64 (gl s158 100 0) ∧ RL64 y157) <|
      ifEq (lcmpI (gl s158 100 0) y157) 0
        (La_law_b1024 L x5 s158)
        (none))
      (La_law_b1024 L x5 s158))
    (none)
noncomputable def La_law_b1080 (L : Nat) (x5 : Int) (s : Sg) : Option (((Int × Sg) ⊕ (Sg))) :=
  La_law_b2707 L x5 s
noncomputable def La_law_b1027 (L : Nat) (x5 : Int) (s : Sg) : Option (((Int × Sg) ⊕ (Sg))) :=
  grd (0 ≤ (x5 + 1) ∧ (x5 + 1) < (L : Int)) <|
  bnd2 (La_chains (gi s 1200 (x5 + 1).toNat) s) fun y166 s167 =>
  grd (0 ≤ (x5 + 1) ∧ (x5 + 1) < (L : Int)) <|
  bnd2 (Mo_chains (gi s167 1200 (x5 + 1).toNat) s167) fun y169 s170 =>
  bnd (Mo_thrown s170) fun y171 =>
  ifEq y171 y166
    (ifEq y166 0
      (grd (0 ≤ 0 ∧ 0 < 1) <|
      grd (R y169) <|
      grd (RL64 (gl s170 100 0) ∧ RL64 y169) <|
      ifEq (lcmpI (gl s170 100 0) y169) 0
        (La_law_b1080 L x5 s170)
        (none))
      (La_law_b1080 L x5 s170))
    (none)
noncomputable def La_law_b1143 (L : Nat) (x5 : Int) (s : Sg) : Option (((Int × Sg) ⊕ (Sg))) :=
  La_law_b2707 L x5 s
noncomputable def La_law_b1137 (L : Nat) (x5 : Int) (t0 : Int) (t1 : Int) (s : Sg) : Option (((Int × Sg) ⊕ (Sg))) :=
  grd (RL64 t0 ∧ RL64 t1) <|
  ifEq (lcmpI t0 t1) 0
    (La_law_b1143 L x5 s)
    (none)
noncomputable def La_law_b1083 (L : Nat) (x5 : Int) (s : Sg) : Option (((Int × Sg) ⊕ (Sg))) :=
  grd (0 ≤ (x5 + 1) ∧ (x5 + 1) < (L : Int)) <|
  bnd2 (La_isSafe (gi s 1200 (x5 + 1).toNat) s) fun y178 s179 =>
  grd (0 ≤ (x5 + 1) ∧ (x5 + 1) < (L : Int)) <|
  bnd2 (Mo_isSafe (gi s179 1200 (x5 + 1).toNat) s179) fun y181 s182 =>
  bnd (Mo_thrown s182) fun y183 =>
  ifEq y183 y178
    (ifEq y178 0
      (grd (0 ≤ 0 ∧ 0 < 1) <|
      ifEq y181 0
        (La_law_b1137 L x5 (gl s182 100 0) 0 s182)
        (La_law_b1137 L x5 (gl s182 100 0) 1 s182))
      (La_law_b1143 L x5 s182))
    (none)
noncomputable def La_law_b1199 (L : Nat) (x5 : Int) (s : Sg) : Option (((Int × Sg) ⊕ (Sg))) :=
  La_law_b2707 L x5 s
noncomputable def La_law_b1146 (L : Nat) (x5 : Int) (s : Sg) : Option (((Int × Sg) ⊕ (Sg))) :=
  grd (0 ≤ (x5 + 1) ∧ (x5 + 1) < (L : Int)) <|
  bnd2 (La_answer (gi s 1200 (x5 + 1).toNat) s) fun y189 s190 =>
  grd (0 ≤ (x5 + 1) ∧ (x5 + 1) < (L : Int)) <|
  bnd2 (Mo_answer (gi s190 1200 (x5 + 1).toNat) s190) fun y192 s193 =>
  bnd (Mo_thrown s193) fun y194 =>
  ifEq y194 y189
    (ifEq y189 0
      (grd (0 ≤ 0 ∧ 0 < 1) <|
      grd (R y192) <|
      grd (RL64 (gl s193 100 0) ∧ RL64 y192) <|
      ifEq (lcmpI (gl s193 100 0) y192) 0
        (La_law_b1199 L x5 s193)
        (none))
      (La_law_b1199 L x5 s193))
    (none)
noncomputable def La_law_b1255 (L : Nat) (x5 : Int) (s : Sg) : Option (((Int × Sg) ⊕ (Sg))) :=
  La_law_b2707 L x5 s
noncomputable def La_law_b1202 (L : Nat) (x5 : Int) (s : Sg) : Option (((Int × Sg) ⊕ (Sg))) :=
  grd (0 ≤ (x5 + 1) ∧ (x5 + 1) < (L : Int)) <|
  bnd2 (La_threats (gi s 1200 (x5 + 1).toNat) s) fun y201 s202 =>
  grd (0 ≤ (x5 + 1) ∧ (x5 + 1) < (L : Int)) <|
  bnd2 (Mo_threats (gi s202 1200 (x5 + 1).toNat) s202) fun y204 s205 =>
  bnd (Mo_thrown s205) fun y206 =>
  ifEq y206 y201
    (ifEq y201 0
      (grd (0 ≤ 0 ∧ 0 < 1) <|
      grd (R y204) <|
      grd (RL64 (gl s205 100 0) ∧ RL64 y204) <|
      ifEq (lcmpI (gl s205 100 0) y204) 0
        (La_law_b1255 L x5 s205)
        (none))
      (La_law_b1255 L x5 s205))
    (none)
noncomputable def La_law_b1323 (L : Nat) (x5 : Int) (s : Sg) : Option (((Int × Sg) ⊕ (Sg))) :=
  La_law_b2707 L x5 s
noncomputable def La_law_b1258 (L : Nat) (x5 : Int) (s : Sg) : Option (((Int × Sg) ⊕ (Sg))) :=
  grd (0 ≤ (x5 + 1) ∧ (x5 + 1) < (L : Int)) <|
  grd (0 ≤ (x5 + 2) ∧ (x5 + 2) < (L : Int)) <|
  bnd2 (La_threat (gi s 1200 (x5 + 1).toNat) (gi s 1200 (x5 + 2).toNat) s) fun y214 s215 =>
  grd (0 ≤ (x5 + 1) ∧ (x5 + 1) < (L : Int)) <|
  grd (0 ≤ (x5 + 2) ∧ (x5 + 2) < (L : Int)) <|
  bnd2 (Mo_threat (gi s215 1200 (x5 + 1).toNat) (gi s215 1200 (x5 + 2).toNat) s215) fun y218 s219 =>
  bnd (Mo_thrown s219) fun y220 =>
  ifEq y220 y214
    (ifEq y214 0
      (grd (0 ≤ 0 ∧ 0 < 1) <|
      grd (R y218) <|
      grd (RL64 (gl s219 100 0) ∧ RL64 y218) <|
      ifEq (lcmpI (gl s219 100 0) y218) 0
        (La_law_b1323 L x5 s219)
        (none))
      (La_law_b1323 L x5 s219))
    (none)
noncomputable def La_law_b1326 (L : Nat) (x5 : Int) (s : Sg) : Option (((Int × Sg) ⊕ (Sg))) :=
  bnd2 (Hx_forced s) fun y226 s227 =>
  bnd2 (Mo_forced s227) fun y228 s229 =>
  ifEq y226 y228
    (La_law_b2707 L x5 s229)
    (none)
noncomputable def La_law_b1392 (L : Nat) (x5 : Int) (s : Sg) : Option (((Int × Sg) ⊕ (Sg))) :=
  La_law_b2707 L x5 s
noncomputable def La_law_b1339 (L : Nat) (x5 : Int) (s : Sg) : Option (((Int × Sg) ⊕ (Sg))) :=
  grd (0 ≤ (x5 + 1) ∧ (x5 + 1) < (L : Int)) <|
  bnd2 (La_distance (gi s 1200 (x5 + 1).toNat) s) fun y233 s234 =>
  grd (0 ≤ (x5 + 1) ∧ (x5 + 1) < (L : Int)) <|
  bnd2 (Mo_distance (gi s234 1200 (x5 + 1).toNat) s234) fun y236 s237 =>
  bnd (Mo_thrown s237) fun y238 =>
  ifEq y238 y233
    (ifEq y233 0
      (grd (0 ≤ 0 ∧ 0 < 1) <|
      grd (R y236) <|
      grd (RL64 (gl s237 100 0) ∧ RL64 y236) <|
      ifEq (lcmpI (gl s237 100 0) y236) 0
        (La_law_b1392 L x5 s237)
        (none))
      (La_law_b1392 L x5 s237))
    (none)
noncomputable def La_law_b1460 (L : Nat) (x5 : Int) (s : Sg) : Option (((Int × Sg) ⊕ (Sg))) :=
  La_law_b2707 L x5 s
noncomputable def La_law_b1395 (L : Nat) (x5 : Int) (s : Sg) : Option (((Int × Sg) ⊕ (Sg))) :=
  grd (0 ≤ (x5 + 1) ∧ (x5 + 1) < (L : Int)) <|
  grd (0 ≤ (x5 + 2) ∧ (x5 + 2) < (L : Int)) <|
  bnd2 (La_through (gi s 1200 (x5 + 1).toNat) (gi s 1200 (x5 + 2).toNat) s) fun y246 s247 =>
  grd (0 ≤ (x5 + 1) ∧ (x5 + 1) < (L : Int)) <|
  grd (0 ≤ (x5 + 2) ∧ (x5 + 2) < (L : Int)) <|
  bnd2 (Mo_through (gi s247 1200 (x5 + 1).toNat) (gi s247 1200 (x5 + 2).toNat) s247) fun y250 s251 =>
  bnd (Mo_thrown s251) fun y252 =>
  ifEq y252 y246
    (ifEq y246 0
      (grd (0 ≤ 0 ∧ 0 < 1) <|
      grd (R y250) <|
      grd (RL64 (gl s251 100 0) ∧ RL64 y250) <|
      ifEq (lcmpI (gl s251 100 0) y250) 0
        (La_law_b1460 L x5 s251)
        (none))
      (La_law_b1460 L x5 s251))
    (none)
noncomputable def La_law_b1516 (L : Nat) (x5 : Int) (s : Sg) : Option (((Int × Sg) ⊕ (Sg))) :=
  La_law_b2707 L x5 s
noncomputable def La_law_b1463 (L : Nat) (x5 : Int) (s : Sg) : Option (((Int × Sg) ⊕ (Sg))) :=
  grd (0 ≤ (x5 + 1) ∧ (x5 + 1) < (L : Int)) <|
  bnd2 (La_useful (gi s 1200 (x5 + 1).toNat) s) fun y259 s260 =>
  grd (0 ≤ (x5 + 1) ∧ (x5 + 1) < (L : Int)) <|
  bnd2 (Mo_useful (gi s260 1200 (x5 + 1).toNat) s260) fun y262 s263 =>
  bnd (Mo_thrown s263) fun y264 =>
  ifEq y264 y259
    (ifEq y259 0
      (grd (0 ≤ 0 ∧ 0 < 1) <|
      grd (R y262) <|
      grd (RL64 (gl s263 100 0) ∧ RL64 y262) <|
      ifEq (lcmpI (gl s263 100 0) y262) 0
        (La_law_b1516 L x5 s263)
        (none))
      (La_law_b1516 L x5 s263))
    (none)
noncomputable def La_law_b1519 (L : Nat) (x5 : Int) (s : Sg) : Option (((Int × Sg) ⊕ (Sg))) :=
  bnd2 (Hx_shared s) fun y270 s271 =>
  bnd2 (Mo_shared s271) fun y272 s273 =>
  ifEq y270 y272
    (La_law_b2707 L x5 s273)
    (none)
noncomputable def La_law_b1609 (L : Nat) (x5 : Int) (s : Sg) : Option (((Int × Sg) ⊕ (Sg))) :=
  La_law_b2707 L x5 s
noncomputable def La_law_b1532 (L : Nat) (x5 : Int) (s : Sg) : Option (((Int × Sg) ⊕ (Sg))) :=
  grd (0 ≤ (x5 + 1) ∧ (x5 + 1) < (L : Int)) <|
  grd (0 ≤ (x5 + 2) ∧ (x5 + 2) < (L : Int)) <|
  grd (0 ≤ (x5 + 3) ∧ (x5 + 3) < (L : Int)) <|
  bnd2 (La_potential (gi s 1200 (x5 + 1).toNat) (gi s 1200 (x5 + 2).toNat) (gi s 1200 (x5 + 3).toNat) s) fun y279 s280 =>
  grd (0 ≤ (x5 + 1) ∧ (x5 + 1) < (L : Int)) <|
  grd (0 ≤ (x5 + 2) ∧ (x5 + 2) < (L : Int)) <|
  grd (0 ≤ (x5 + 3) ∧ (x5 + 3) < (L : Int)) <|
  bnd2 (Mo_potential (gi s280 1200 (x5 + 1).toNat) (gi s280 1200 (x5 + 2).toNat) (gi s280 1200 (x5 + 3).toNat) s280) fun y284 s285 =>
  bnd (Mo_thrown s285) fun y286 =>
  ifEq y286 y279
    (ifEq y279 0
      (grd (0 ≤ 0 ∧ 0 < 1) <|
      grd (R y284) <|
      grd (RL64 (gl s285 100 0) ∧ RL64 y284) <|
      ifEq (lcmpI (gl s285 100 0) y284) 0
        (La_law_b1609 L x5 s285)
        (none))
      (La_law_b1609 L x5 s285))
    (none)
noncomputable def La_law_b1677 (L : Nat) (x5 : Int) (s : Sg) : Option (((Int × Sg) ⊕ (Sg))) :=
  La_law_b2707 L x5 s
noncomputable def La_law_b1612 (L : Nat) (x5 : Int) (s : Sg) : Option (((Int × Sg) ⊕ (Sg))) :=
  grd (0 ≤ (x5 + 1) ∧ (x5 + 1) < (L : Int)) <|
  grd (0 ≤ (x5 + 2) ∧ (x5 + 2) < (L : Int)) <|
  bnd2 (La_current (gi s 1200 (x5 + 1).toNat) (gi s 1200 (x5 + 2).toNat) s) fun y294 s295 =>
  grd (0 ≤ (x5 + 1) ∧ (x5 + 1) < (L : Int)) <|
  grd (0 ≤ (x5 + 2) ∧ (x5 + 2) < (L : Int)) <|
  bnd2 (Mo_current (gi s295 1200 (x5 + 1).toNat) (gi s295 1200 (x5 + 2).toNat) s295) fun y298 s299 =>
  bnd (Mo_thrown s299) fun y300 =>
  ifEq y300 y294
    (ifEq y294 0
      (grd (0 ≤ 0 ∧ 0 < 1) <|
      grd (R y298) <|
      grd (RL64 (gl s299 100 0) ∧ RL64 y298) <|
      ifEq (lcmpI (gl s299 100 0) y298) 0
        (La_law_b1677 L x5 s299)
        (none))
      (La_law_b1677 L x5 s299))
    (none)
noncomputable def La_law_b1767 (L : Nat) (x5 : Int) (s : Sg) : Option (((Int × Sg) ⊕ (Sg))) :=
  La_law_b2707 L x5 s
noncomputable def La_law_b1680 (L : Nat) (x5 : Int) (s : Sg) : Option (((Int × Sg) ⊕ (Sg))) :=
  grd (0 ≤ (x5 + 1) ∧ (x5 + 1) < (L : Int)) <|
  grd (0 ≤ (x5 + 2) ∧ (x5 + 2) < (L : Int)) <|
  bnd2 (La_resistance (gi s 1200 (x5 + 1).toNat) (gi s 1200 (x5 + 2).toNat) s) fun y308 s309 =>
  grd (0 ≤ (x5 + 1) ∧ (x5 + 1) < (L : Int)) <|
  grd (0 ≤ (x5 + 2) ∧ (x5 + 2) < (L : Int)) <|
  bnd2 (Mo_resistance (gi s309 1200 (x5 + 1).toNat) (gi s309 1200 (x5 + 2).toNat) s309) fun y312 s313 =>
  bnd (Mo_thrown s313) fun y314 =>
  ifEq y314 y308
    (ifEq y308 0
      (grd (0 ≤ 0 ∧ 0 < 1) <|
      grd (vf_n64 (FP.f2d y312)) <|
      ifEq (dcmplI (gd s313 101 0) (FP.f2d y312)) 0
        (La_law_b1767 L x5 s313)
        (grd (0 ≤ 0 ∧ 0 < 1) <|
        grd (0 ≤ 0 ∧ 0 < 1) <|
        ifEq (dcmplI (gd s313 101 0) (gd s313 101 0)) 0
          (none)
          (ifEq (fcmplI y312 y312) 0
            (none)
            (La_law_b1767 L x5 s313))))
      (La_law_b1767 L x5 s313))
    (none)
noncomputable def La_law_b1844 (L : Nat) (x5 : Int) (s : Sg) : Option (((Int × Sg) ⊕ (Sg))) :=
  La_law_b2707 L x5 s
noncomputable def La_law_b1770 (L : Nat) (x5 : Int) (s : Sg) : Option (((Int × Sg) ⊕ (Sg))) :=
  grd (0 ≤ (x5 + 1) ∧ (x5 + 1) < (L : Int)) <|
  bnd2 (La_balance (gi s 1200 (x5 + 1).toNat) s) fun y322 s323 =>
  grd (0 ≤ (x5 + 1) ∧ (x5 + 1) < (L : Int)) <|
  bnd2 (Mo_balance (gi s323 1200 (x5 + 1).toNat) s323) fun y325 s326 =>
  bnd (Mo_thrown s326) fun y327 =>
  ifEq y327 y322
    (ifEq y322 0
      (grd (0 ≤ 0 ∧ 0 < 1) <|
      ifEq (dcmplI (gd s326 101 0) y325) 0
        (La_law_b1844 L x5 s326)
        (grd (0 ≤ 0 ∧ 0 < 1) <|
        grd (0 ≤ 0 ∧ 0 < 1) <|
        ifEq (dcmplI (gd s326 101 0) (gd s326 101 0)) 0
          (none)
          (ifEq (dcmplI y325 y325) 0
            (none)
            (La_law_b1844 L x5 s326))))
      (La_law_b1844 L x5 s326))
    (none)
noncomputable def La_law_b1847 (L : Nat) (x5 : Int) (s : Sg) : Option (((Int × Sg) ⊕ (Sg))) :=
  bnd2 (Hx_solved s) fun y333 s334 =>
  bnd2 (Mo_solved s334) fun y335 s336 =>
  ifEq y333 y335
    (La_law_b2707 L x5 s336)
    (none)
noncomputable def La_law_b1860 (L : Nat) (x5 : Int) (s : Sg) : Option (((Int × Sg) ⊕ (Sg))) :=
  bnd2 (Hx_goodMoves s) fun y339 s340 =>
  bnd2 (Mo_goodMoves s340) fun y341 s342 =>
  ifEq y339 y341
    (La_law_b2707 L x5 s342)
    (none)
noncomputable def La_law_b1873 (L : Nat) (x5 : Int) (s : Sg) : Option (((Int × Sg) ⊕ (Sg))) :=
  bnd2 (Hx_bestMove s) fun y345 s346 =>
  bnd2 (Mo_bestMove s346) fun y347 s348 =>
  ifEq y345 y347
    (La_law_b2707 L x5 s348)
    (none)
noncomputable def La_law_b1939 (L : Nat) (x5 : Int) (s : Sg) : Option (((Int × Sg) ⊕ (Sg))) :=
  La_law_b2707 L x5 s
noncomputable def La_law_b1886 (L : Nat) (x5 : Int) (s : Sg) : Option (((Int × Sg) ⊕ (Sg))) :=
  grd (0 ≤ (x5 + 1) ∧ (x5 + 1) < (L : Int)) <|
  bnd2 (La_filled (gi s 1200 (x5 + 1).toNat) s) fun y352 s353 =>
  grd (0 ≤ (x5 + 1) ∧ (x5 + 1) < (L : Int)) <|
  bnd2 (Mo_filled (gi s353 1200 (x5 + 1).toNat) s353) fun y355 s356 =>
  bnd (Mo_thrown s356) fun y357 =>
  ifEq y357 y352
    (ifEq y352 0
      (grd (0 ≤ 0 ∧ 0 < 1) <|
      grd (R y355) <|
      grd (RL64 (gl s356 100 0) ∧ RL64 y355) <|
      ifEq (lcmpI (gl s356 100 0) y355) 0
        (La_law_b1939 L x5 s356)
        (none))
      (La_law_b1939 L x5 s356))
    (none)
noncomputable def La_law_b2019 (L : Nat) (x5 : Int) (s : Sg) : Option (((Int × Sg) ⊕ (Sg))) :=
  La_law_b2707 L x5 s
noncomputable def La_law_b1942 (L : Nat) (x5 : Int) (s : Sg) : Option (((Int × Sg) ⊕ (Sg))) :=
  grd (0 ≤ (x5 + 1) ∧ (x5 + 1) < (L : Int)) <|
  grd (0 ≤ (x5 + 2) ∧ (x5 + 2) < (L : Int)) <|
  grd (0 ≤ (x5 + 3) ∧ (x5 + 3) < (L : Int)) <|
  bnd2 (La_fillings (gi s 1200 (x5 + 1).toNat) (gi s 1200 (x5 + 2).toNat) (gi s 1200 (x5 + 3).toNat) s) fun y366 s367 =>
  grd (0 ≤ (x5 + 1) ∧ (x5 + 1) < (L : Int)) <|
  grd (0 ≤ (x5 + 2) ∧ (x5 + 2) < (L : Int)) <|
  grd (0 ≤ (x5 + 3) ∧ (x5 + 3) < (L : Int)) <|
  bnd2 (Mo_fillings (gi s367 1200 (x5 + 1).toNat) (gi s367 1200 (x5 + 2).toNat) (gi s367 1200 (x5 + 3).toNat) s367) fun y371 s372 =>
  bnd (Mo_thrown s372) fun y373 =>
  ifEq y373 y366
    (ifEq y366 0
      (grd (0 ≤ 0 ∧ 0 < 1) <|
      grd (R y371) <|
      grd (RL64 (gl s372 100 0) ∧ RL64 y371) <|
      ifEq (lcmpI (gl s372 100 0) y371) 0
        (La_law_b2019 L x5 s372)
        (none))
      (La_law_b2019 L x5 s372))
    (none)
noncomputable def La_law_b2075 (L : Nat) (x5 : Int) (s : Sg) : Option (((Int × Sg) ⊕ (Sg))) :=
  La_law_b2707 L x5 s
noncomputable def La_law_b2022 (L : Nat) (x5 : Int) (s : Sg) : Option (((Int × Sg) ⊕ (Sg))) :=
  grd (0 ≤ (x5 + 1) ∧ (x5 + 1) < (L : Int)) <|
  bnd2 (La_idle (gi s 1200 (x5 + 1).toNat) s) fun y380 s381 =>
  grd (0 ≤ (x5 + 1) ∧ (x5 + 1) < (L : Int)) <|
  bnd2 (Mo_idle (gi s381 1200 (x5 + 1).toNat) s381) fun y383 s384 =>
  bnd (Mo_thrown s384) fun y385 =>
  ifEq y385 y380
    (ifEq y380 0
      (grd (0 ≤ 0 ∧ 0 < 1) <|
      grd (R y383) <|
      grd (RL64 (gl s384 100 0) ∧ RL64 y383) <|
      ifEq (lcmpI (gl s384 100 0) y383) 0
        (La_law_b2075 L x5 s384)
        (none))
      (La_law_b2075 L x5 s384))
    (none)
noncomputable def La_law_b2078 (L : Nat) (x5 : Int) (s : Sg) : Option (((Int × Sg) ⊕ (Sg))) :=
  grd (0 ≤ (x5 + 1) ∧ (x5 + 1) < (L : Int)) <|
  bnd (Hx_moveAt (gi s 1200 (x5 + 1).toNat) s) fun y392 =>
  grd (0 ≤ (x5 + 1) ∧ (x5 + 1) < (L : Int)) <|
  bnd2 (Mo_moveAt (gi s 1200 (x5 + 1).toNat) s) fun y394 s395 =>
  ifEq y392 y394
    (La_law_b2707 L x5 s395)
    (none)
noncomputable def La_law_b2156 (L : Nat) (x5 : Int) (s : Sg) : Option (((Int × Sg) ⊕ (Sg))) :=
  La_law_b2707 L x5 s
noncomputable def La_law_b2103 (L : Nat) (x5 : Int) (s : Sg) : Option (((Int × Sg) ⊕ (Sg))) :=
  grd (0 ≤ (x5 + 1) ∧ (x5 + 1) < (L : Int)) <|
  bnd2 (La_move (gi s 1200 (x5 + 1).toNat) s) fun y399 s400 =>
  grd (0 ≤ (x5 + 1) ∧ (x5 + 1) < (L : Int)) <|
  bnd2 (Mo_move (gi s400 1200 (x5 + 1).toNat) s400) fun y402 s403 =>
  bnd (Mo_thrown s403) fun y404 =>
  ifEq y404 y399
    (ifEq y399 0
      (grd (0 ≤ 0 ∧ 0 < 1) <|
      grd (R y402) <|
      grd (RL64 (gl s403 100 0) ∧ RL64 y402) <|
      ifEq (lcmpI (gl s403 100 0) y402) 0
        (La_law_b2156 L x5 s403)
        (none))
      (La_law_b2156 L x5 s403))
    (none)
noncomputable def La_law_b2159 (L : Nat) (x5 : Int) (s : Sg) : Option (((Int × Sg) ⊕ (Sg))) :=
  bnd2 (Hx_swap s) fun y410 s411 =>
  bnd2 (Mo_swap s411) fun y412 s413 =>
  ifEq y410 y412
    (La_law_b2707 L x5 s413)
    (none)
noncomputable def La_law_b2172 (L : Nat) (x5 : Int) (s : Sg) : Option (((Int × Sg) ⊕ (Sg))) :=
  bnd2 (Hx_giveUp s) fun y416 s417 =>
  bnd2 (Mo_giveUp s417) fun y418 s419 =>
  ifEq y416 y418
    (La_law_b2707 L x5 s419)
    (none)
noncomputable def La_law_b2250 (L : Nat) (x5 : Int) (s : Sg) : Option (((Int × Sg) ⊕ (Sg))) :=
  La_law_b2707 L x5 s
noncomputable def La_law_b2185 (L : Nat) (x5 : Int) (s : Sg) : Option (((Int × Sg) ⊕ (Sg))) :=
  grd (0 ≤ (x5 + 1) ∧ (x5 + 1) < (L : Int)) <|
  grd (0 ≤ (x5 + 2) ∧ (x5 + 2) < (L : Int)) <|
  bnd2 (La_put (gi s 1200 (x5 + 1).toNat) (gi s 1200 (x5 + 2).toNat) s) fun y424 s425 =>
  grd (0 ≤ (x5 + 1) ∧ (x5 + 1) < (L : Int)) <|
  grd (0 ≤ (x5 + 2) ∧ (x5 + 2) < (L : Int)) <|
  bnd2 (Mo_put (gi s425 1200 (x5 + 1).toNat) (gi s425 1200 (x5 + 2).toNat) s425) fun y428 s429 =>
  bnd (Mo_thrown s429) fun y430 =>
  ifEq y430 y424
    (ifEq y424 0
      (grd (0 ≤ 0 ∧ 0 < 1) <|
      grd (R y428) <|
      grd (RL64 (gl s429 100 0) ∧ RL64 y428) <|
      ifEq (lcmpI (gl s429 100 0) y428) 0
        (La_law_b2250 L x5 s429)
        (none))
      (La_law_b2250 L x5 s429))
    (none)
noncomputable def La_law_b2306 (L : Nat) (x5 : Int) (s : Sg) : Option (((Int × Sg) ⊕ (Sg))) :=
  La_law_b2707 L x5 s
noncomputable def La_law_b2253 (L : Nat) (x5 : Int) (s : Sg) : Option (((Int × Sg) ⊕ (Sg))) :=
  grd (0 ≤ (x5 + 1) ∧ (x5 + 1) < (L : Int)) <|
  bnd2 (La_setTurn (gi s 1200 (x5 + 1).toNat) s) fun y437 s438 =>
  grd (0 ≤ (x5 + 1) ∧ (x5 + 1) < (L : Int)) <|
  bnd2 (Mo_setTurn (gi s438 1200 (x5 + 1).toNat) s438) fun y440 s441 =>
  bnd (Mo_thrown s441) fun y442 =>
  ifEq y442 y437
    (ifEq y437 0
      (grd (0 ≤ 0 ∧ 0 < 1) <|
      grd (R y440) <|
      grd (RL64 (gl s441 100 0) ∧ RL64 y440) <|
      ifEq (lcmpI (gl s441 100 0) y440) 0
        (La_law_b2306 L x5 s441)
        (none))
      (La_law_b2306 L x5 s441))
    (none)
noncomputable def La_law_b2309 (L : Nat) (x5 : Int) (s : Sg) : Option (((Int × Sg) ⊕ (Sg))) :=
  bnd2 (Hx_turnOver s) fun y448 s449 =>
  bnd2 (Mo_turnOver s449) fun y450 s451 =>
  ifEq y448 y450
    (La_law_b2707 L x5 s451)
    (none)
noncomputable def La_law_b2375 (L : Nat) (x5 : Int) (s : Sg) : Option (((Int × Sg) ⊕ (Sg))) :=
  La_law_b2707 L x5 s
noncomputable def La_law_b2322 (L : Nat) (x5 : Int) (s : Sg) : Option (((Int × Sg) ⊕ (Sg))) :=
  grd (0 ≤ (x5 + 1) ∧ (x5 + 1) < (L : Int)) <|
  bnd2 (La_playForced (gi s 1200 (x5 + 1).toNat) s) fun y455 s456 =>
  grd (0 ≤ (x5 + 1) ∧ (x5 + 1) < (L : Int)) <|
  bnd2 (Mo_playForced (gi s456 1200 (x5 + 1).toNat) s456) fun y458 s459 =>
  bnd (Mo_thrown s459) fun y460 =>
  ifEq y460 y455
    (ifEq y455 0
      (grd (0 ≤ 0 ∧ 0 < 1) <|
      grd (R y458) <|
      grd (RL64 (gl s459 100 0) ∧ RL64 y458) <|
      ifEq (lcmpI (gl s459 100 0) y458) 0
        (La_law_b2375 L x5 s459)
        (none))
      (La_law_b2375 L x5 s459))
    (none)
noncomputable def La_law_b2378 (L : Nat) (x5 : Int) (s : Sg) : Option (((Int × Sg) ⊕ (Sg))) :=
  bnd2 (Hx_forcedWinner s) fun y466 s467 =>
  bnd2 (Mo_forcedWinner s467) fun y468 s469 =>
  ifEq y466 y468
    (La_law_b2707 L x5 s469)
    (none)
noncomputable def La_law_b2391 (L : Nat) (x5 : Int) (s : Sg) : Option (((Int × Sg) ⊕ (Sg))) :=
  bnd2 (Hx_forcedRow s) fun y472 s473 =>
  bnd2 (Mo_forcedRow s473) fun y474 s475 =>
  ifEq y472 y474
    (La_law_b2707 L x5 s475)
    (none)
noncomputable def La_law_b2442 (L : Nat) (x5 : Int) (s : Sg) : Option (((Int × Sg) ⊕ (Sg))) :=
  La_law_b2707 L x5 s
noncomputable def La_law_b2404 (L : Nat) (x5 : Int) (s : Sg) : Option (((Int × Sg) ⊕ (Sg))) :=
  bnd (Hx_fullness s) fun y478 =>
  bnd2 (Mo_fullness s) fun y479 s480 =>
  ifEq (dcmplI y478 y479) 0
    (La_law_b2442 L x5 s480)
    (ifEq (dcmplI y478 y478) 0
      (none)
      (ifEq (dcmplI y479 y479) 0
        (none)
        (La_law_b2442 L x5 s480)))
noncomputable def La_law_b2498 (L : Nat) (x5 : Int) (s : Sg) : Option (((Int × Sg) ⊕ (Sg))) :=
  La_law_b2707 L x5 s
noncomputable def La_law_b2445 (L : Nat) (x5 : Int) (s : Sg) : Option (((Int × Sg) ⊕ (Sg))) :=
  grd (0 ≤ (x5 + 1) ∧ (x5 + 1) < (L : Int)) <|
  bnd2 (La_writeRow (gi s 1200 (x5 + 1).toNat) s) fun y484 s485 =>
  grd (0 ≤ (x5 + 1) ∧ (x5 + 1) < (L : Int)) <|
  bnd2 (Mo_writeRow (gi s485 1200 (x5 + 1).toNat) s485) fun y487 s488 =>
  bnd (Mo_thrown s488) fun y489 =>
  ifEq y489 y484
    (ifEq y484 0
      (grd (0 ≤ 0 ∧ 0 < 1) <|
      grd (R y487) <|
      grd (RL64 (gl s488 100 0) ∧ RL64 y487) <|
      ifEq (lcmpI (gl s488 100 0) y487) 0
        (La_law_b2498 L x5 s488)
        (none))
      (La_law_b2498 L x5 s488))
    (none)
noncomputable def La_law_b2554 (L : Nat) (x5 : Int) (s : Sg) : Option (((Int × Sg) ⊕ (Sg))) :=
  La_law_b2707 L x5 s
noncomputable def La_law_b2501 (L : Nat) (x5 : Int) (s : Sg) : Option (((Int × Sg) ⊕ (Sg))) :=
  grd (0 ≤ (x5 + 1) ∧ (x5 + 1) < (L : Int)) <|
  bnd2 (La_writeCell (gi s 1200 (x5 + 1).toNat) s) fun y496 s497 =>
  grd (0 ≤ (x5 + 1) ∧ (x5 + 1) < (L : Int)) <|
  bnd2 (Mo_writeCell (gi s497 1200 (x5 + 1).toNat) s497) fun y499 s500 =>
  bnd (Mo_thrown s500) fun y501 =>
  ifEq y501 y496
    (ifEq y496 0
      (grd (0 ≤ 0 ∧ 0 < 1) <|
      grd (R y499) <|
      grd (RL64 (gl s500 100 0) ∧ RL64 y499) <|
      ifEq (lcmpI (gl s500 100 0) y499) 0
        (La_law_b2554 L x5 s500)
        (none))
      (La_law_b2554 L x5 s500))
    (none)
noncomputable def La_law_b2557 (L : Nat) (x5 : Int) (s : Sg) : Option (((Int × Sg) ⊕ (Sg))) :=
  grd (0 ≤ (x5 + 1) ∧ (x5 + 1) < (L : Int)) <|
  bnd (Hx_outputByte (gi s 1200 (x5 + 1).toNat) s) fun y508 =>
  grd (0 ≤ (x5 + 1) ∧ (x5 + 1) < (L : Int)) <|
  bnd2 (Mo_outputByte (gi s 1200 (x5 + 1).toNat) s) fun y510 s511 =>
  ifEq y508 y510
    (La_law_b2707 L x5 s511)
    (none)
noncomputable def La_law_b2582 (L : Nat) (x5 : Int) (s : Sg) : Option (((Int × Sg) ⊕ (Sg))) :=
  bnd2 (Hx_undo s) fun y514 s515 =>
  bnd2 (Mo_undo s515) fun y516 s517 =>
  ifEq y514 y516
    (La_law_b2707 L x5 s517)
    (none)
noncomputable def La_law_b2648 (L : Nat) (x5 : Int) (s : Sg) : Option (((Int × Sg) ⊕ (Sg))) :=
  La_law_b2707 L x5 s
noncomputable def La_law_b2595 (L : Nat) (x5 : Int) (s : Sg) : Option (((Int × Sg) ⊕ (Sg))) :=
  grd (0 ≤ (x5 + 1) ∧ (x5 + 1) < (L : Int)) <|
  bnd2 (La_saveSnapshot (gi s 1200 (x5 + 1).toNat) s) fun y521 s522 =>
  grd (0 ≤ (x5 + 1) ∧ (x5 + 1) < (L : Int)) <|
  bnd2 (Mo_saveSnapshot (gi s522 1200 (x5 + 1).toNat) s522) fun y524 s525 =>
  bnd (Mo_thrown s525) fun y526 =>
  ifEq y526 y521
    (ifEq y521 0
      (grd (0 ≤ 0 ∧ 0 < 1) <|
      grd (R y524) <|
      grd (RL64 (gl s525 100 0) ∧ RL64 y524) <|
      ifEq (lcmpI (gl s525 100 0) y524) 0
        (La_law_b2648 L x5 s525)
        (none))
      (La_law_b2648 L x5 s525))
    (none)
noncomputable def La_law_b2704 (L : Nat) (x5 : Int) (s : Sg) : Option (((Int × Sg) ⊕ (Sg))) :=
  La_law_b2707 L x5 s
noncomputable def La_law_b2651 (L : Nat) (x5 : Int) (s : Sg) : Option (((Int × Sg) ⊕ (Sg))) :=
  grd (0 ≤ (x5 + 1) ∧ (x5 + 1) < (L : Int)) <|
  bnd2 (La_restoreSnapshot (gi s 1200 (x5 + 1).toNat) s) fun y533 s534 =>
  grd (0 ≤ (x5 + 1) ∧ (x5 + 1) < (L : Int)) <|
  bnd2 (Mo_restoreSnapshot (gi s534 1200 (x5 + 1).toNat) s534) fun y536 s537 =>
  bnd (Mo_thrown s537) fun y538 =>
  ifEq y538 y533
    (ifEq y533 0
      (grd (0 ≤ 0 ∧ 0 < 1) <|
      grd (R y536) <|
      grd (RL64 (gl s537 100 0) ∧ RL64 y536) <|
      ifEq (lcmpI (gl s537 100 0) y536) 0
        (La_law_b2704 L x5 s537)
        (none))
      (La_law_b2704 L x5 s537))
    (none)
noncomputable def La_law_t28 (L : Nat) (x5 : Int) (s : Sg) : Option (((Int × Sg) ⊕ (Sg))) :=
  grd (0 ≤ x5 ∧ x5 ≤ 2048) <|
  ifLt ((L : Int) - 4) x5
    (some (.inr s))
    (grd (0 ≤ x5 ∧ x5 < (L : Int)) <|
    ifEq (iandI (gi s 1200 x5.toNat) 63) 0
      (La_law_b264 L x5 s)
      (ifEq (iandI (gi s 1200 x5.toNat) 63) 1
        (La_law_b321 L x5 s)
        (ifEq (iandI (gi s 1200 x5.toNat) 63) 2
          (La_law_b334 L x5 s)
          (ifEq (iandI (gi s 1200 x5.toNat) 63) 3
            (La_law_b347 L x5 s)
            (ifEq (iandI (gi s 1200 x5.toNat) 63) 4
              (La_law_b360 L x5 s)
              (ifEq (iandI (gi s 1200 x5.toNat) 63) 5
                (La_law_b416 L x5 s)
                (ifEq (iandI (gi s 1200 x5.toNat) 63) 6
                  (La_law_b472 L x5 s)
                  (ifEq (iandI (gi s 1200 x5.toNat) 63) 7
                    (La_law_b540 L x5 s)
                    (ifEq (iandI (gi s 1200 x5.toNat) 63) 8
                      (La_law_b608 L x5 s)
                      (ifEq (iandI (gi s 1200 x5.toNat) 63) 9
                        (La_law_b664 L x5 s)
                        (ifEq (iandI (gi s 1200 x5.toNat) 63) 10
                          (La_law_b720 L x5 s)
                          (ifEq (iandI (gi s 1200 x5.toNat) 63) 11
                            (La_law_b795 L x5 s)
                            (ifEq (iandI (gi s 1200 x5.toNat) 63) 12
                              (La_law_b879 L x5 s)
                              (ifEq (iandI (gi s 1200 x5.toNat) 63) 13
                                (La_law_b959 L x5 s)
                                (ifEq (iandI (gi s 1200 x5.toNat) 63) 14
                                  (La_law_b1027 L x5 s)
                                  (ifEq (iandI (gi s 1200 x5.toNat) 63) 15
                                    (La_law_b1083 L x5 s)
                                    (ifEq (iandI (gi s 1200 x5.toNat) 63) 16
                                      (La_law_b1146 L x5 s)
                                      (ifEq (iandI (gi s 1200 x5.toNat) 63) 17
                                        (La_law_b1202 L x5 s)
                                        (ifEq (iandI (gi s 1200 x5.toNat) 63) 18
                                          (La_law_b1258 L x5 s)
                                          (ifEq (iandI (gi s 1200 x5.toNat) 63) 19
                                            (La_law_b1326 L x5 s)
                                            (ifEq (iandI (gi s 1200 x5.toNat) 63) 20
                                              (La_law_b1339 L x5 s)
                                              (ifEq (iandI (gi s 1200 x5.toNat) 63) 21
                                                (La_law_b1395 L x5 s)
                                                (ifEq (iandI (gi s 1200 x5.toNat) 63) 22
                                                  (La_law_b1463 L x5 s)
                                                  (ifEq (iandI (gi s 1200 x5.toNat) 63) 23
                                                    (La_law_b1519 L x5 s)
                                                    (ifEq (iandI (gi s 1200 x5.toNat) 63) 24
                                                      (La_law_b1532 L x5 s)
                                                      (ifEq (iandI (gi s 1200 x5.toNat) 63) 25
                                                        (La_law_b1612 L x5 s)
                                                        (ifEq (iandI (gi s 1200 x5.toNat) 63) 26
                                                          (La_law_b1680 L x5 s)
                                                          (ifEq (iandI (gi s 1200 x5.toNat) 63) 27
                                                            (La_law_b1770 L x5 s)
                                                            (ifEq (iandI (gi s 1200 x5.toNat) 63) 28
                                                              (La_law_b1847 L x5 s)
                                                              (ifEq (iandI (gi s 1200 x5.toNat) 63) 29
                                                                (La_law_b1860 L x5 s)
                                                                (ifEq (iandI (gi s 1200 x5.toNat) 63) 30
                                                                  (La_law_b1873 L x5 s)
                                                                  (ifEq (iandI (gi s 1200 x5.toNat) 63) 31
                                                                    (La_law_b1886 L x5 s)
                                                                    (ifEq (iandI (gi s 1200 x5.toNat) 63) 32
                                                                      (La_law_b1942 L x5 s)
                                                                      (ifEq (iandI (gi s 1200 x5.toNat) 63) 33
                                                                        (La_law_b2022 L x5 s)
                                                                        (ifEq (iandI (gi s 1200 x5.toNat) 63) 34
                                                                          (La_law_b2078 L x5 s)
                                                                          (ifEq (iandI (gi s 1200 x5.toNat) 63) 35
                                                                            (La_law_b2103 L x5 s)
                                                                            (ifEq (iandI (gi s 1200 x5.toNat) 63) 36
                                                                              (La_law_b2159 L x5 s)
                                                                              (ifEq (iandI (gi s 1200 x5.toNat) 63) 37
                                                                                (La_law_b2172 L x5 s)
                                                                                (ifEq (iandI (gi s 1200 x5.toNat) 63) 38
                                                                                  (La_law_b2185 L x5 s)
                                                                                  (ifEq (iandI (gi s 1200 x5.toNat) 63) 39
                                                                                    (La_law_b2253 L x5 s)
                                                                                    (ifEq (iandI (gi s 1200 x5.toNat) 63) 40
                                                                                      (La_law_b2309 L x5 s)
                                                                                      (ifEq (iandI (gi s 1200 x5.toNat) 63) 41
                                                                                        (La_law_b2322 L x5 s)
                                                                                        (ifEq (iandI (gi s 1200 x5.toNat) 63) 42
                                                                                          (La_law_b2378 L x5 s)
                                                                                          (ifEq (iandI (gi s 1200 x5.toNat) 63) 43
                                                                                            (La_law_b2391 L x5 s)
                                                                                            (ifEq (iandI (gi s 1200 x5.toNat) 63) 44
                                                                                              (La_law_b2404 L x5 s)
                                                                                              (ifEq (iandI (gi s 1200 x5.toNat) 63) 45
                                                                                                (La_law_b2445 L x5 s)
                                                                                                (ifEq (iandI (gi s 1200 x5.toNat) 63) 46
                                                                                                  (La_law_b2501 L x5 s)
                                                                                                  (ifEq (iandI (gi s 1200 x5.toNat) 63) 47
                                                                                                    (La_law_b2557 L x5 s)
                                                                                                    (ifEq (iandI (gi s 1200 x5.toNat) 63) 48
                                                                                                      (La_law_b2582 L x5 s)
                                                                                                      (ifEq (iandI (gi s 1200 x5.toNat) 63) 49
                                                                                                        (La_law_b2595 L x5 s)
                                                                                                        (ifEq (iandI (gi s 1200 x5.toNat) 63) 50
                                                                                                          (La_law_b2651 L x5 s)
                                                                                                          (La_law_b2707 L x5 s))))))))))))))))))))))))))))))))))))))))))))))))))))
noncomputable def La_law_l28 (L : Nat) (x5 : Int) (s : Sg) : Option (Int × Sg) :=
  bnd (whl (fun σ : Int × Sg => La_law_t28 L σ.1 σ.2) (x5, s)) fun ρ28 =>
    some (1, ρ28)

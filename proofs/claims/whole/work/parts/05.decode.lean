/-! DECODE CHECKS, a row a method: written by wip/whole/gen. -/
set_option maxRecDepth 100000 in
theorem dk_law_0 : ckD code k_law_0 = true := by decide +kernel
set_option maxRecDepth 100000 in
theorem dk_law_1 : ckD code k_law_1 = true := by decide +kernel
set_option maxRecDepth 100000 in
theorem dk_law_2 : ckD code k_law_2 = true := by decide +kernel
set_option maxRecDepth 100000 in
theorem dk_law_3 : ckD code k_law_3 = true := by decide +kernel
set_option maxRecDepth 100000 in
theorem dk_law_4 : ckD code k_law_4 = true := by decide +kernel
set_option maxRecDepth 100000 in
theorem dk_law_5 : ckD code k_law_5 = true := by decide +kernel
set_option maxRecDepth 100000 in
theorem dk_law_6 : ckD code k_law_6 = true := by decide +kernel
set_option maxRecDepth 100000 in
theorem dk_law_7 : ckD code k_law_7 = true := by decide +kernel
set_option maxRecDepth 100000 in
theorem dk_law_8 : ckD code k_law_8 = true := by decide +kernel
set_option maxRecDepth 100000 in
theorem dk_law_9 : ckD code k_law_9 = true := by decide +kernel
set_option maxRecDepth 100000 in
theorem dk_law_10 : ckD code k_law_10 = true := by decide +kernel
set_option maxRecDepth 100000 in
theorem dk_law_11 : ckD code k_law_11 = true := by decide +kernel
set_option maxRecDepth 100000 in
theorem dk_law_12 : ckD code k_law_12 = true := by decide +kernel
set_option maxRecDepth 100000 in
theorem dk_law_13 : ckD code k_law_13 = true := by decide +kernel
set_option maxRecDepth 100000 in
theorem dk_law_14 : ckD code k_law_14 = true := by decide +kernel
set_option maxRecDepth 100000 in
theorem dk_law_15 : ckD code k_law_15 = true := by decide +kernel
set_option maxRecDepth 100000 in
theorem dk_law_16 : ckD code k_law_16 = true := by decide +kernel
theorem dk_law : ckD code k_law = true := ckD_app dk_law_0 (ckD_app dk_law_1 (ckD_app dk_law_2 (ckD_app dk_law_3 (ckD_app dk_law_4 (ckD_app dk_law_5 (ckD_app dk_law_6 (ckD_app dk_law_7 (ckD_app dk_law_8 (ckD_app dk_law_9 (ckD_app dk_law_10 (ckD_app dk_law_11 (ckD_app dk_law_12 (ckD_app dk_law_13 (ckD_app dk_law_14 (ckD_app dk_law_15 (dk_law_16))))))))))))))))
set_option maxRecDepth 100000 in
theorem dk_RW_init_0 : ckD prog_1_method_1_code k_RW_init_0 = true := by decide +kernel
set_option maxRecDepth 100000 in
theorem dk_RW_init_1 : ckD prog_1_method_1_code k_RW_init_1 = true := by decide +kernel
set_option maxRecDepth 100000 in
theorem dk_RW_init_2 : ckD prog_1_method_1_code k_RW_init_2 = true := by decide +kernel
theorem dk_RW_init : ckD prog_1_method_1_code k_RW_init = true := ckD_app dk_RW_init_0 (ckD_app dk_RW_init_1 (dk_RW_init_2))
set_option maxRecDepth 100000 in
theorem dk_Mo_init_0 : ckD prog_14_method_3_code k_Mo_init_0 = true := by decide +kernel
set_option maxRecDepth 100000 in
theorem dk_Mo_init_1 : ckD prog_14_method_3_code k_Mo_init_1 = true := by decide +kernel
theorem dk_Mo_init : ckD prog_14_method_3_code k_Mo_init = true := ckD_app dk_Mo_init_0 (dk_Mo_init_1)
set_option maxRecDepth 100000 in
theorem dk_RW_feed : ckD prog_1_method_2_code k_RW_feed = true := by decide +kernel
set_option maxRecDepth 100000 in
theorem dk_Mo_feed_0 : ckD prog_14_method_5_code k_Mo_feed_0 = true := by decide +kernel
set_option maxRecDepth 100000 in
theorem dk_Mo_feed_1 : ckD prog_14_method_5_code k_Mo_feed_1 = true := by decide +kernel
theorem dk_Mo_feed : ckD prog_14_method_5_code k_Mo_feed = true := ckD_app dk_Mo_feed_0 (dk_Mo_feed_1)
set_option maxRecDepth 100000 in
theorem dk_RW_room : ckD prog_1_method_4_code k_RW_room = true := by decide +kernel
set_option maxRecDepth 100000 in
theorem dk_Mo_room_0 : ckD prog_14_method_33_code k_Mo_room_0 = true := by decide +kernel
set_option maxRecDepth 100000 in
theorem dk_Mo_room_1 : ckD prog_14_method_33_code k_Mo_room_1 = true := by decide +kernel
theorem dk_Mo_room : ckD prog_14_method_33_code k_Mo_room = true := ckD_app dk_Mo_room_0 (dk_Mo_room_1)
set_option maxRecDepth 100000 in
theorem dk_RW_fault : ckD prog_1_method_6_code k_RW_fault = true := by decide +kernel
set_option maxRecDepth 100000 in
theorem dk_Mo_fault : ckD prog_14_method_34_code k_Mo_fault = true := by decide +kernel
set_option maxRecDepth 100000 in
theorem dk_RW_rose : ckD prog_1_method_7_code k_RW_rose = true := by decide +kernel
set_option maxRecDepth 100000 in
theorem dk_Mo_rose : ckD prog_14_method_50_code k_Mo_rose = true := by decide +kernel
set_option maxRecDepth 100000 in
theorem dk_RW_tenant : ckD prog_1_method_8_code k_RW_tenant = true := by decide +kernel
set_option maxRecDepth 100000 in
theorem dk_Mo_tenant : ckD prog_14_method_51_code k_Mo_tenant = true := by decide +kernel
set_option maxRecDepth 100000 in
theorem dk_RW_night : ckD prog_1_method_9_code k_RW_night = true := by decide +kernel
set_option maxRecDepth 100000 in
theorem dk_Mo_night : ckD prog_14_method_57_code k_Mo_night = true := by decide +kernel
set_option maxRecDepth 100000 in
theorem dk_RW_nights : ckD prog_1_method_10_code k_RW_nights = true := by decide +kernel
set_option maxRecDepth 100000 in
theorem dk_Mo_nights : ckD prog_14_method_58_code k_Mo_nights = true := by decide +kernel
set_option maxRecDepth 100000 in
theorem dk_RW_let : ckD prog_1_method_11_code k_RW_let = true := by decide +kernel
set_option maxRecDepth 100000 in
theorem dk_Mo_let : ckD prog_14_method_59_code k_Mo_let = true := by decide +kernel
set_option maxRecDepth 100000 in
theorem dk_RW_turn : ckD prog_1_method_12_code k_RW_turn = true := by decide +kernel
set_option maxRecDepth 100000 in
theorem dk_Mo_turn : ckD prog_14_method_60_code k_Mo_turn = true := by decide +kernel
set_option maxRecDepth 100000 in
theorem dk_RW_temper : ckD prog_1_method_13_code k_RW_temper = true := by decide +kernel
set_option maxRecDepth 100000 in
theorem dk_Mo_temper : ckD prog_14_method_61_code k_Mo_temper = true := by decide +kernel
set_option maxRecDepth 100000 in
theorem dk_RW_undo : ckD prog_1_method_14_code k_RW_undo = true := by decide +kernel
set_option maxRecDepth 100000 in
theorem dk_Mo_undo : ckD prog_14_method_62_code k_Mo_undo = true := by decide +kernel
set_option maxRecDepth 100000 in
theorem dk_RW_judge_0 : ckD prog_1_method_15_code k_RW_judge_0 = true := by decide +kernel
set_option maxRecDepth 100000 in
theorem dk_RW_judge_1 : ckD prog_1_method_15_code k_RW_judge_1 = true := by decide +kernel
theorem dk_RW_judge : ckD prog_1_method_15_code k_RW_judge = true := ckD_app dk_RW_judge_0 (dk_RW_judge_1)
set_option maxRecDepth 100000 in
theorem dk_Mo_judge : ckD prog_14_method_68_code k_Mo_judge = true := by decide +kernel
set_option maxRecDepth 100000 in
theorem dk_RW_perform : ckD prog_1_method_16_code k_RW_perform = true := by decide +kernel
set_option maxRecDepth 100000 in
theorem dk_Mo_perform : ckD prog_14_method_69_code k_Mo_perform = true := by decide +kernel
set_option maxRecDepth 100000 in
theorem dk_RW_season : ckD prog_1_method_17_code k_RW_season = true := by decide +kernel
set_option maxRecDepth 100000 in
theorem dk_Mo_season : ckD prog_14_method_72_code k_Mo_season = true := by decide +kernel
set_option maxRecDepth 100000 in
theorem dk_RW_lies : ckD prog_1_method_26_code k_RW_lies = true := by decide +kernel
set_option maxRecDepth 100000 in
theorem dk_Mo_lies : ckD prog_14_method_74_code k_Mo_lies = true := by decide +kernel
set_option maxRecDepth 100000 in
theorem dk_RW_round : ckD prog_1_method_27_code k_RW_round = true := by decide +kernel
set_option maxRecDepth 100000 in
theorem dk_Mo_round_0 : ckD prog_14_method_75_code k_Mo_round_0 = true := by decide +kernel
set_option maxRecDepth 100000 in
theorem dk_Mo_round_1 : ckD prog_14_method_75_code k_Mo_round_1 = true := by decide +kernel
theorem dk_Mo_round : ckD prog_14_method_75_code k_Mo_round = true := ckD_app dk_Mo_round_0 (dk_Mo_round_1)
set_option maxRecDepth 100000 in
theorem dk_RW_stays : ckD prog_1_method_29_code k_RW_stays = true := by decide +kernel
set_option maxRecDepth 100000 in
theorem dk_Mo_stays : ckD prog_14_method_79_code k_Mo_stays = true := by decide +kernel
set_option maxRecDepth 100000 in
theorem dk_RW_stayBy : ckD prog_1_method_30_code k_RW_stayBy = true := by decide +kernel
set_option maxRecDepth 100000 in
theorem dk_Mo_stayBy_0 : ckD prog_14_method_80_code k_Mo_stayBy_0 = true := by decide +kernel
set_option maxRecDepth 100000 in
theorem dk_Mo_stayBy_1 : ckD prog_14_method_80_code k_Mo_stayBy_1 = true := by decide +kernel
theorem dk_Mo_stayBy : ckD prog_14_method_80_code k_Mo_stayBy = true := ckD_app dk_Mo_stayBy_0 (dk_Mo_stayBy_1)
set_option maxRecDepth 100000 in
theorem dk_RW_out : ckD prog_1_method_31_code k_RW_out = true := by decide +kernel
set_option maxRecDepth 100000 in
theorem dk_Mo_out : ckD prog_14_method_86_code k_Mo_out = true := by decide +kernel
set_option maxRecDepth 100000 in
theorem dk_RW_outBy : ckD prog_1_method_32_code k_RW_outBy = true := by decide +kernel
set_option maxRecDepth 100000 in
theorem dk_Mo_outBy : ckD prog_14_method_87_code k_Mo_outBy = true := by decide +kernel
set_option maxRecDepth 100000 in
theorem dk_RW_forces : ckD prog_1_method_33_code k_RW_forces = true := by decide +kernel
set_option maxRecDepth 100000 in
theorem dk_Mo_forces : ckD prog_14_method_91_code k_Mo_forces = true := by decide +kernel
set_option maxRecDepth 100000 in
theorem dk_RW_minds : ckD prog_1_method_34_code k_RW_minds = true := by decide +kernel
set_option maxRecDepth 100000 in
theorem dk_Mo_minds : ckD prog_14_method_92_code k_Mo_minds = true := by decide +kernel
set_option maxRecDepth 100000 in
theorem dk_RW_soonest : ckD prog_1_method_35_code k_RW_soonest = true := by decide +kernel
set_option maxRecDepth 100000 in
theorem dk_Mo_soonest : ckD prog_14_method_93_code k_Mo_soonest = true := by decide +kernel
set_option maxRecDepth 100000 in
theorem dk_RW_way : ckD prog_1_method_36_code k_RW_way = true := by decide +kernel
set_option maxRecDepth 100000 in
theorem dk_Mo_way : ckD prog_14_method_94_code k_Mo_way = true := by decide +kernel
set_option maxRecDepth 100000 in
theorem dk_RW_toFace : ckD prog_1_method_37_code k_RW_toFace = true := by decide +kernel
set_option maxRecDepth 100000 in
theorem dk_Mo_toFace : ckD prog_14_method_95_code k_Mo_toFace = true := by decide +kernel
set_option maxRecDepth 100000 in
theorem dk_RW_walls : ckD prog_1_method_38_code k_RW_walls = true := by decide +kernel
set_option maxRecDepth 100000 in
theorem dk_Mo_walls_0 : ckD prog_14_method_98_code k_Mo_walls_0 = true := by decide +kernel
set_option maxRecDepth 100000 in
theorem dk_Mo_walls_1 : ckD prog_14_method_98_code k_Mo_walls_1 = true := by decide +kernel
theorem dk_Mo_walls : ckD prog_14_method_98_code k_Mo_walls = true := ckD_app dk_Mo_walls_0 (dk_Mo_walls_1)
set_option maxRecDepth 100000 in
theorem dk_RW_parents : ckD prog_1_method_39_code k_RW_parents = true := by decide +kernel
set_option maxRecDepth 100000 in
theorem dk_Mo_parents : ckD prog_14_method_101_code k_Mo_parents = true := by decide +kernel
set_option maxRecDepth 100000 in
theorem dk_RW_orphans : ckD prog_1_method_40_code k_RW_orphans = true := by decide +kernel
set_option maxRecDepth 100000 in
theorem dk_Mo_orphans : ckD prog_14_method_102_code k_Mo_orphans = true := by decide +kernel
set_option maxRecDepth 100000 in
theorem dk_RW_still : ckD prog_1_method_41_code k_RW_still = true := by decide +kernel
set_option maxRecDepth 100000 in
theorem dk_Mo_still : ckD prog_14_method_103_code k_Mo_still = true := by decide +kernel
set_option maxRecDepth 100000 in
theorem dk_RW_rows : ckD prog_1_method_42_code k_RW_rows = true := by decide +kernel
set_option maxRecDepth 100000 in
theorem dk_Mo_rows : ckD prog_14_method_104_code k_Mo_rows = true := by decide +kernel
set_option maxRecDepth 100000 in
theorem dk_RW_seen : ckD prog_1_method_43_code k_RW_seen = true := by decide +kernel
set_option maxRecDepth 100000 in
theorem dk_Mo_seen : ckD prog_14_method_109_code k_Mo_seen = true := by decide +kernel
set_option maxRecDepth 100000 in
theorem dk_RW_seenBy_0 : ckD prog_1_method_44_code k_RW_seenBy_0 = true := by decide +kernel
set_option maxRecDepth 100000 in
theorem dk_RW_seenBy_1 : ckD prog_1_method_44_code k_RW_seenBy_1 = true := by decide +kernel
theorem dk_RW_seenBy : ckD prog_1_method_44_code k_RW_seenBy = true := ckD_app dk_RW_seenBy_0 (dk_RW_seenBy_1)
set_option maxRecDepth 100000 in
theorem dk_Mo_seenBy : ckD prog_14_method_110_code k_Mo_seenBy = true := by decide +kernel
set_option maxRecDepth 100000 in
theorem dk_RW_whose_0 : ckD prog_1_method_46_code k_RW_whose_0 = true := by decide +kernel
set_option maxRecDepth 100000 in
theorem dk_RW_whose_1 : ckD prog_1_method_46_code k_RW_whose_1 = true := by decide +kernel
theorem dk_RW_whose : ckD prog_1_method_46_code k_RW_whose = true := ckD_app dk_RW_whose_0 (dk_RW_whose_1)
set_option maxRecDepth 100000 in
theorem dk_Mo_whose_0 : ckD prog_14_method_111_code k_Mo_whose_0 = true := by decide +kernel
set_option maxRecDepth 100000 in
theorem dk_Mo_whose_1 : ckD prog_14_method_111_code k_Mo_whose_1 = true := by decide +kernel
theorem dk_Mo_whose : ckD prog_14_method_111_code k_Mo_whose = true := ckD_app dk_Mo_whose_0 (dk_Mo_whose_1)
set_option maxRecDepth 100000 in
theorem dk_RW_tempers : ckD prog_1_method_47_code k_RW_tempers = true := by decide +kernel
set_option maxRecDepth 100000 in
theorem dk_Mo_tempers : ckD prog_14_method_114_code k_Mo_tempers = true := by decide +kernel
set_option maxRecDepth 100000 in
theorem dk_RW_attempt : ckD prog_1_method_48_code k_RW_attempt = true := by decide +kernel
set_option maxRecDepth 100000 in
theorem dk_Mo_attempt : ckD prog_14_method_116_code k_Mo_attempt = true := by decide +kernel
set_option maxRecDepth 100000 in
theorem dk_RW_chance : ckD prog_1_method_56_code k_RW_chance = true := by decide +kernel
set_option maxRecDepth 100000 in
theorem dk_Mo_chance : ckD prog_14_method_120_code k_Mo_chance = true := by decide +kernel
set_option maxRecDepth 100000 in
theorem dk_RW_gone : ckD prog_1_method_57_code k_RW_gone = true := by decide +kernel
set_option maxRecDepth 100000 in
theorem dk_Mo_gone : ckD prog_14_method_121_code k_Mo_gone = true := by decide +kernel
set_option maxRecDepth 100000 in
theorem dk_RW_best : ckD prog_1_method_58_code k_RW_best = true := by decide +kernel
set_option maxRecDepth 100000 in
theorem dk_Mo_best : ckD prog_14_method_122_code k_Mo_best = true := by decide +kernel
set_option maxRecDepth 100000 in
theorem dk_RW_numbers : ckD prog_1_method_62_code k_RW_numbers = true := by decide +kernel
set_option maxRecDepth 100000 in
theorem dk_Mo_numbers : ckD prog_14_method_124_code k_Mo_numbers = true := by decide +kernel
set_option maxRecDepth 100000 in
theorem dk_RW_write : ckD prog_1_method_63_code k_RW_write = true := by decide +kernel
set_option maxRecDepth 100000 in
theorem dk_Mo_write : ckD prog_14_method_125_code k_Mo_write = true := by decide +kernel
set_option maxRecDepth 100000 in
theorem dk_RW_lists : ckD prog_1_method_64_code k_RW_lists = true := by decide +kernel
set_option maxRecDepth 100000 in
theorem dk_Mo_lists : ckD prog_14_method_126_code k_Mo_lists = true := by decide +kernel
set_option maxRecDepth 100000 in
theorem dk_RW_image : ckD prog_1_method_66_code k_RW_image = true := by decide +kernel
set_option maxRecDepth 100000 in
theorem dk_Mo_image : ckD prog_14_method_127_code k_Mo_image = true := by decide +kernel
set_option maxRecDepth 100000 in
theorem dk_RW_restore : ckD prog_1_method_67_code k_RW_restore = true := by decide +kernel
set_option maxRecDepth 100000 in
theorem dk_Mo_restore : ckD prog_14_method_128_code k_Mo_restore = true := by decide +kernel
set_option maxRecDepth 100000 in
theorem dk_RW_count : ckD prog_1_method_68_code k_RW_count = true := by decide +kernel
set_option maxRecDepth 100000 in
theorem dk_Mo_count : ckD prog_14_method_129_code k_Mo_count = true := by decide +kernel
set_option maxRecDepth 100000 in
theorem dk_Tok_init : ckD prog_11_method_1_code k_Tok_init = true := by decide +kernel
set_option maxRecDepth 100000 in
theorem dk_RR_init : ckD prog_9_method_1_code k_RR_init = true := by decide +kernel
set_option maxRecDepth 100000 in
theorem dk_Mom_init : ckD prog_5_method_1_code k_Mom_init = true := by decide +kernel
set_option maxRecDepth 100000 in
theorem dk_Past_init : ckD prog_6_method_1_code k_Past_init = true := by decide +kernel
set_option maxRecDepth 100000 in
theorem dk_Stp_init : ckD prog_10_method_1_code k_Stp_init = true := by decide +kernel
set_option maxRecDepth 100000 in
theorem dk_Rch_init : ckD prog_7_method_1_code k_Rch_init = true := by decide +kernel
set_option maxRecDepth 100000 in
theorem dk_Con_init : ckD prog_2_method_1_code k_Con_init = true := by decide +kernel
set_option maxRecDepth 100000 in
theorem dk_Room_init : ckD prog_8_method_1_code k_Room_init = true := by decide +kernel
set_option maxRecDepth 100000 in
theorem dk_Tray_init : ckD prog_12_method_1_code k_Tray_init = true := by decide +kernel
set_option maxRecDepth 100000 in
theorem dk_Mom_begin : ckD prog_5_method_2_code k_Mom_begin = true := by decide +kernel
set_option maxRecDepth 100000 in
theorem dk_Stp_take : ckD prog_10_method_2_code k_Stp_take = true := by decide +kernel
set_option maxRecDepth 100000 in
theorem dk_Mo_plain : ckD prog_14_method_4_code k_Mo_plain = true := by decide +kernel
set_option maxRecDepth 100000 in
theorem dk_RW_tapeFour : ckD prog_1_method_3_code k_RW_tapeFour = true := by decide +kernel
set_option maxRecDepth 100000 in
theorem dk_RW_spareRoom : ckD prog_1_method_5_code k_RW_spareRoom = true := by decide +kernel
set_option maxRecDepth 100000 in
theorem dk_Tok_begin_0 : ckD prog_11_method_2_code k_Tok_begin_0 = true := by decide +kernel
set_option maxRecDepth 100000 in
theorem dk_Tok_begin_1 : ckD prog_11_method_2_code k_Tok_begin_1 = true := by decide +kernel
theorem dk_Tok_begin : ckD prog_11_method_2_code k_Tok_begin = true := ckD_app dk_Tok_begin_0 (dk_Tok_begin_1)
set_option maxRecDepth 100000 in
theorem dk_RR_readRoom : ckD prog_9_method_2_code k_RR_readRoom = true := by decide +kernel
set_option maxRecDepth 100000 in
theorem dk_Past_clear : ckD prog_6_method_2_code k_Past_clear = true := by decide +kernel
set_option maxRecDepth 100000 in
theorem dk_Mo_within : ckD prog_14_method_2_code k_Mo_within = true := by decide +kernel
set_option maxRecDepth 100000 in
theorem dk_Mo_next_0 : ckD prog_14_method_10_code k_Mo_next_0 = true := by decide +kernel
set_option maxRecDepth 100000 in
theorem dk_Mo_next_1 : ckD prog_14_method_10_code k_Mo_next_1 = true := by decide +kernel
set_option maxRecDepth 100000 in
theorem dk_Mo_next_2 : ckD prog_14_method_10_code k_Mo_next_2 = true := by decide +kernel
theorem dk_Mo_next : ckD prog_14_method_10_code k_Mo_next = true := ckD_app dk_Mo_next_0 (ckD_app dk_Mo_next_1 (dk_Mo_next_2))
set_option maxRecDepth 100000 in
theorem dk_Mo_eats : ckD prog_14_method_13_code k_Mo_eats = true := by decide +kernel
set_option maxRecDepth 100000 in
theorem dk_Mo_fails : ckD prog_14_method_11_code k_Mo_fails = true := by decide +kernel
set_option maxRecDepth 100000 in
theorem dk_Mo_takes : ckD prog_14_method_14_code k_Mo_takes = true := by decide +kernel
set_option maxRecDepth 100000 in
theorem dk_Mo_ends : ckD prog_14_method_32_code k_Mo_ends = true := by decide +kernel
set_option maxRecDepth 100000 in
theorem dk_Mo_readLine_0 : ckD prog_14_method_31_code k_Mo_readLine_0 = true := by decide +kernel
set_option maxRecDepth 100000 in
theorem dk_Mo_readLine_1 : ckD prog_14_method_31_code k_Mo_readLine_1 = true := by decide +kernel
theorem dk_Mo_readLine : ckD prog_14_method_31_code k_Mo_readLine = true := ckD_app dk_Mo_readLine_0 (dk_Mo_readLine_1)
set_option maxRecDepth 100000 in
theorem dk_Room_hasRose : ckD prog_8_method_5_code k_Room_hasRose = true := by decide +kernel
set_option maxRecDepth 100000 in
theorem dk_Int_bitCount : ckD prog_16_method_49_code k_Int_bitCount = true := by decide +kernel
set_option maxRecDepth 100000 in
theorem dk_Mom_place : ckD prog_5_method_4_code k_Mom_place = true := by decide +kernel
set_option maxRecDepth 100000 in
theorem dk_Stp_pass_0 : ckD prog_10_method_5_code k_Stp_pass_0 = true := by decide +kernel
set_option maxRecDepth 100000 in
theorem dk_Stp_pass_1 : ckD prog_10_method_5_code k_Stp_pass_1 = true := by decide +kernel
set_option maxRecDepth 100000 in
theorem dk_Stp_pass_2 : ckD prog_10_method_5_code k_Stp_pass_2 = true := by decide +kernel
theorem dk_Stp_pass : ckD prog_10_method_5_code k_Stp_pass = true := ckD_app dk_Stp_pass_0 (ckD_app dk_Stp_pass_1 (dk_Stp_pass_2))
set_option maxRecDepth 100000 in
theorem dk_Mo_isRose : ckD prog_14_method_36_code k_Mo_isRose = true := by decide +kernel
set_option maxRecDepth 100000 in
theorem dk_Mo_nearOf_0 : ckD prog_14_method_41_code k_Mo_nearOf_0 = true := by decide +kernel
set_option maxRecDepth 100000 in
theorem dk_Mo_nearOf_1 : ckD prog_14_method_41_code k_Mo_nearOf_1 = true := by decide +kernel
theorem dk_Mo_nearOf : ckD prog_14_method_41_code k_Mo_nearOf = true := ckD_app dk_Mo_nearOf_0 (dk_Mo_nearOf_1)
set_option maxRecDepth 100000 in
theorem dk_Mo_turnsThen_0 : ckD prog_14_method_44_code k_Mo_turnsThen_0 = true := by decide +kernel
set_option maxRecDepth 100000 in
theorem dk_Mo_turnsThen_1 : ckD prog_14_method_44_code k_Mo_turnsThen_1 = true := by decide +kernel
theorem dk_Mo_turnsThen : ckD prog_14_method_44_code k_Mo_turnsThen = true := ckD_app dk_Mo_turnsThen_0 (dk_Mo_turnsThen_1)
set_option maxRecDepth 100000 in
theorem dk_Room_hasTenant : ckD prog_8_method_6_code k_Room_hasTenant = true := by decide +kernel
set_option maxRecDepth 100000 in
theorem dk_Stp_isGoing_0 : ckD prog_10_method_7_code k_Stp_isGoing_0 = true := by decide +kernel
set_option maxRecDepth 100000 in
theorem dk_Stp_isGoing_1 : ckD prog_10_method_7_code k_Stp_isGoing_1 = true := by decide +kernel
set_option maxRecDepth 100000 in
theorem dk_Stp_isGoing_2 : ckD prog_10_method_7_code k_Stp_isGoing_2 = true := by decide +kernel
theorem dk_Stp_isGoing : ckD prog_10_method_7_code k_Stp_isGoing = true := ckD_app dk_Stp_isGoing_0 (ckD_app dk_Stp_isGoing_1 (dk_Stp_isGoing_2))
set_option maxRecDepth 100000 in
theorem dk_Mo_isTenant : ckD prog_14_method_37_code k_Mo_isTenant = true := by decide +kernel
set_option maxRecDepth 100000 in
theorem dk_Mo_goesBy_0 : ckD prog_14_method_45_code k_Mo_goesBy_0 = true := by decide +kernel
set_option maxRecDepth 100000 in
theorem dk_Mo_goesBy_1 : ckD prog_14_method_45_code k_Mo_goesBy_1 = true := by decide +kernel
theorem dk_Mo_goesBy : ckD prog_14_method_45_code k_Mo_goesBy = true := ckD_app dk_Mo_goesBy_0 (dk_Mo_goesBy_1)
set_option maxRecDepth 100000 in
theorem dk_RW_doneAlone : ckD prog_1_method_20_code k_RW_doneAlone = true := by decide +kernel
set_option maxRecDepth 100000 in
theorem dk_Mo_isBlind : ckD prog_14_method_39_code k_Mo_isBlind = true := by decide +kernel
set_option maxRecDepth 100000 in
theorem dk_Mo_keeps : ckD prog_14_method_52_code k_Mo_keeps = true := by decide +kernel
set_option maxRecDepth 100000 in
theorem dk_Mo_goesNight : ckD prog_14_method_55_code k_Mo_goesNight = true := by decide +kernel
set_option maxRecDepth 100000 in
theorem dk_Mo_notes_0 : ckD prog_14_method_54_code k_Mo_notes_0 = true := by decide +kernel
set_option maxRecDepth 100000 in
theorem dk_Mo_notes_1 : ckD prog_14_method_54_code k_Mo_notes_1 = true := by decide +kernel
theorem dk_Mo_notes : ckD prog_14_method_54_code k_Mo_notes = true := ckD_app dk_Mo_notes_0 (dk_Mo_notes_1)
set_option maxRecDepth 100000 in
theorem dk_RW_isBlind : ckD prog_1_method_25_code k_RW_isBlind = true := by decide +kernel
set_option maxRecDepth 100000 in
theorem dk_Past_keep : ckD prog_6_method_3_code k_Past_keep = true := by decide +kernel
set_option maxRecDepth 100000 in
theorem dk_RW_passNight : ckD prog_1_method_24_code k_RW_passNight = true := by decide +kernel
set_option maxRecDepth 100000 in
theorem dk_Mo_whyLet : ckD prog_14_method_56_code k_Mo_whyLet = true := by decide +kernel
set_option maxRecDepth 100000 in
theorem dk_Mo_bitsOf : ckD prog_14_method_40_code k_Mo_bitsOf = true := by decide +kernel
set_option maxRecDepth 100000 in
theorem dk_Past_bringBack : ckD prog_6_method_4_code k_Past_bringBack = true := by decide +kernel
set_option maxRecDepth 100000 in
theorem dk_RW_isTray : ckD prog_1_method_65_code k_RW_isTray = true := by decide +kernel
set_option maxRecDepth 100000 in
theorem dk_Mom_copy : ckD prog_5_method_3_code k_Mom_copy = true := by decide +kernel
set_option maxRecDepth 100000 in
theorem dk_RW_doTray : ckD prog_1_method_21_code k_RW_doTray = true := by decide +kernel
set_option maxRecDepth 100000 in
theorem dk_Tray_at : ckD prog_12_method_4_code k_Tray_at = true := by decide +kernel
set_option maxRecDepth 100000 in
theorem dk_RW_doDeed : ckD prog_1_method_22_code k_RW_doDeed = true := by decide +kernel
set_option maxRecDepth 100000 in
theorem dk_Mo_noTray : ckD prog_14_method_66_code k_Mo_noTray = true := by decide +kernel
set_option maxRecDepth 100000 in
theorem dk_Mo_tells : ckD prog_14_method_65_code k_Mo_tells = true := by decide +kernel
set_option maxRecDepth 100000 in
theorem dk_Mo_isAgain : ckD prog_14_method_53_code k_Mo_isAgain = true := by decide +kernel
set_option maxRecDepth 100000 in
theorem dk_Mo_toldWho : ckD prog_14_method_67_code k_Mo_toldWho = true := by decide +kernel
set_option maxRecDepth 100000 in
theorem dk_RW_drawn : ckD prog_1_method_18_code k_RW_drawn = true := by decide +kernel
set_option maxRecDepth 100000 in
theorem dk_RW_seasonDeed : ckD prog_1_method_19_code k_RW_seasonDeed = true := by decide +kernel
set_option maxRecDepth 100000 in
theorem dk_Mo_drawn : ckD prog_14_method_71_code k_Mo_drawn = true := by decide +kernel
set_option maxRecDepth 100000 in
theorem dk_Mo_whyNot : ckD prog_14_method_63_code k_Mo_whyNot = true := by decide +kernel
set_option maxRecDepth 100000 in
theorem dk_Mo_does : ckD prog_14_method_64_code k_Mo_does = true := by decide +kernel
set_option maxRecDepth 100000 in
theorem dk_RW_here : ckD prog_1_method_28_code k_RW_here = true := by decide +kernel
set_option maxRecDepth 100000 in
theorem dk_Rch_walk : ckD prog_7_method_8_code k_Rch_walk = true := by decide +kernel
set_option maxRecDepth 100000 in
theorem dk_Rch_placeBehind : ckD prog_7_method_9_code k_Rch_placeBehind = true := by decide +kernel
set_option maxRecDepth 100000 in
theorem dk_Mo_laysRound : ckD prog_14_method_73_code k_Mo_laysRound = true := by decide +kernel
set_option maxRecDepth 100000 in
theorem dk_Rch_mostTurned : ckD prog_7_method_10_code k_Rch_mostTurned = true := by decide +kernel
set_option maxRecDepth 100000 in
theorem dk_Rch_firstEmpty : ckD prog_7_method_11_code k_Rch_firstEmpty = true := by decide +kernel
set_option maxRecDepth 100000 in
theorem dk_Rch_explore_0 : ckD prog_7_method_4_code k_Rch_explore_0 = true := by decide +kernel
set_option maxRecDepth 100000 in
theorem dk_Rch_explore_1 : ckD prog_7_method_4_code k_Rch_explore_1 = true := by decide +kernel
theorem dk_Rch_explore : ckD prog_7_method_4_code k_Rch_explore = true := ckD_app dk_Rch_explore_0 (dk_Rch_explore_1)
set_option maxRecDepth 100000 in
theorem dk_Con_settle_0 : ckD prog_2_method_3_code k_Con_settle_0 = true := by decide +kernel
set_option maxRecDepth 100000 in
theorem dk_Con_settle_1 : ckD prog_2_method_3_code k_Con_settle_1 = true := by decide +kernel
theorem dk_Con_settle : ckD prog_2_method_3_code k_Con_settle = true := ckD_app dk_Con_settle_0 (dk_Con_settle_1)
set_option maxRecDepth 100000 in
theorem dk_Con_level : ckD prog_2_method_2_code k_Con_level = true := by decide +kernel
set_option maxRecDepth 100000 in
theorem dk_Mo_laysStays_0 : ckD prog_14_method_78_code k_Mo_laysStays_0 = true := by decide +kernel
set_option maxRecDepth 100000 in
theorem dk_Mo_laysStays_1 : ckD prog_14_method_78_code k_Mo_laysStays_1 = true := by decide +kernel
theorem dk_Mo_laysStays : ckD prog_14_method_78_code k_Mo_laysStays = true := ckD_app dk_Mo_laysStays_0 (dk_Mo_laysStays_1)
set_option maxRecDepth 100000 in
theorem dk_Con_stayBlind_0 : ckD prog_2_method_7_code k_Con_stayBlind_0 = true := by decide +kernel
set_option maxRecDepth 100000 in
theorem dk_Con_stayBlind_1 : ckD prog_2_method_7_code k_Con_stayBlind_1 = true := by decide +kernel
theorem dk_Con_stayBlind : ckD prog_2_method_7_code k_Con_stayBlind = true := ckD_app dk_Con_stayBlind_0 (dk_Con_stayBlind_1)
set_option maxRecDepth 100000 in
theorem dk_Mo_standNow : ckD prog_14_method_49_code k_Mo_standNow = true := by decide +kernel
set_option maxRecDepth 100000 in
theorem dk_Rch_depth : ckD prog_7_method_6_code k_Rch_depth = true := by decide +kernel
set_option maxRecDepth 100000 in
theorem dk_Mo_laysFar_0 : ckD prog_14_method_83_code k_Mo_laysFar_0 = true := by decide +kernel
set_option maxRecDepth 100000 in
theorem dk_Mo_laysFar_1 : ckD prog_14_method_83_code k_Mo_laysFar_1 = true := by decide +kernel
theorem dk_Mo_laysFar : ckD prog_14_method_83_code k_Mo_laysFar = true := ckD_app dk_Mo_laysFar_0 (dk_Mo_laysFar_1)
set_option maxRecDepth 100000 in
theorem dk_Mo_toldFar : ckD prog_14_method_84_code k_Mo_toldFar = true := by decide +kernel
set_option maxRecDepth 100000 in
theorem dk_Rch_blindTo : ckD prog_7_method_7_code k_Rch_blindTo = true := by decide +kernel
set_option maxRecDepth 100000 in
theorem dk_Mo_blindAt : ckD prog_14_method_85_code k_Mo_blindAt = true := by decide +kernel
set_option maxRecDepth 100000 in
theorem dk_Mo_laysForced_0 : ckD prog_14_method_90_code k_Mo_laysForced_0 = true := by decide +kernel
set_option maxRecDepth 100000 in
theorem dk_Mo_laysForced_1 : ckD prog_14_method_90_code k_Mo_laysForced_1 = true := by decide +kernel
theorem dk_Mo_laysForced : ckD prog_14_method_90_code k_Mo_laysForced = true := ckD_app dk_Mo_laysForced_0 (dk_Mo_laysForced_1)
set_option maxRecDepth 100000 in
theorem dk_Con_forcingBlind : ckD prog_2_method_8_code k_Con_forcingBlind = true := by decide +kernel
set_option maxRecDepth 100000 in
theorem dk_Room_hasWall : ckD prog_8_method_8_code k_Room_hasWall = true := by decide +kernel
set_option maxRecDepth 100000 in
theorem dk_Mo_isWall : ckD prog_14_method_38_code k_Mo_isWall = true := by decide +kernel
set_option maxRecDepth 100000 in
theorem dk_Rch_differentWalls : ckD prog_7_method_12_code k_Rch_differentWalls = true := by decide +kernel
set_option maxRecDepth 100000 in
theorem dk_Mo_beginsMany : ckD prog_14_method_96_code k_Mo_beginsMany = true := by decide +kernel
set_option maxRecDepth 100000 in
theorem dk_Mo_standOf : ckD prog_14_method_47_code k_Mo_standOf = true := by decide +kernel
set_option maxRecDepth 100000 in
theorem dk_Stp_tune : ckD prog_10_method_3_code k_Stp_tune = true := by decide +kernel
set_option maxRecDepth 100000 in
theorem dk_Stp_comingTo : ckD prog_10_method_8_code k_Stp_comingTo = true := by decide +kernel
set_option maxRecDepth 100000 in
theorem dk_Mo_laysFrom : ckD prog_14_method_100_code k_Mo_laysFrom = true := by decide +kernel
set_option maxRecDepth 100000 in
theorem dk_Stp_comingOfNone : ckD prog_10_method_9_code k_Stp_comingOfNone = true := by decide +kernel
set_option maxRecDepth 100000 in
theorem dk_Mo_noSo : ckD prog_14_method_99_code k_Mo_noSo = true := by decide +kernel
set_option maxRecDepth 100000 in
theorem dk_Mo_roses : ckD prog_14_method_35_code k_Mo_roses = true := by decide +kernel
set_option maxRecDepth 100000 in
theorem dk_Stp_stayingSame : ckD prog_10_method_10_code k_Stp_stayingSame = true := by decide +kernel
set_option maxRecDepth 100000 in
theorem dk_Mo_wallThen : ckD prog_14_method_46_code k_Mo_wallThen = true := by decide +kernel
set_option maxRecDepth 100000 in
theorem dk_Rch_rowsTo : ckD prog_7_method_13_code k_Rch_rowsTo = true := by decide +kernel
set_option maxRecDepth 100000 in
theorem dk_Mo_goesMany_0 : ckD prog_14_method_97_code k_Mo_goesMany_0 = true := by decide +kernel
set_option maxRecDepth 100000 in
theorem dk_Mo_goesMany_1 : ckD prog_14_method_97_code k_Mo_goesMany_1 = true := by decide +kernel
theorem dk_Mo_goesMany : ckD prog_14_method_97_code k_Mo_goesMany = true := ckD_app dk_Mo_goesMany_0 (dk_Mo_goesMany_1)
set_option maxRecDepth 100000 in
theorem dk_RW_refusedSeen_0 : ckD prog_1_method_49_code k_RW_refusedSeen_0 = true := by decide +kernel
set_option maxRecDepth 100000 in
theorem dk_RW_refusedSeen_1 : ckD prog_1_method_49_code k_RW_refusedSeen_1 = true := by decide +kernel
theorem dk_RW_refusedSeen : ckD prog_1_method_49_code k_RW_refusedSeen = true := ckD_app dk_RW_refusedSeen_0 (dk_RW_refusedSeen_1)
set_option maxRecDepth 100000 in
theorem dk_RW_rowsSeen : ckD prog_1_method_51_code k_RW_rowsSeen = true := by decide +kernel
set_option maxRecDepth 100000 in
theorem dk_Mo_noSeen : ckD prog_14_method_105_code k_Mo_noSeen = true := by decide +kernel
set_option maxRecDepth 100000 in
theorem dk_Mo_laysThen : ckD prog_14_method_76_code k_Mo_laysThen = true := by decide +kernel
set_option maxRecDepth 100000 in
theorem dk_Mo_isRow : ckD prog_14_method_108_code k_Mo_isRow = true := by decide +kernel
set_option maxRecDepth 100000 in
theorem dk_RW_isFirstBlind : ckD prog_1_method_45_code k_RW_isFirstBlind = true := by decide +kernel
set_option maxRecDepth 100000 in
theorem dk_Stp_next : ckD prog_10_method_4_code k_Stp_next = true := by decide +kernel
set_option maxRecDepth 100000 in
theorem dk_Mo_blindIn : ckD prog_14_method_107_code k_Mo_blindIn = true := by decide +kernel
set_option maxRecDepth 100000 in
theorem dk_RW_placeOf : ckD prog_1_method_69_code k_RW_placeOf = true := by decide +kernel
set_option maxRecDepth 100000 in
theorem dk_RW_refusedTempers : ckD prog_1_method_50_code k_RW_refusedTempers = true := by decide +kernel
set_option maxRecDepth 100000 in
theorem dk_RW_tempersSeen : ckD prog_1_method_52_code k_RW_tempersSeen = true := by decide +kernel
set_option maxRecDepth 100000 in
theorem dk_Mo_noBlinds : ckD prog_14_method_112_code k_Mo_noBlinds = true := by decide +kernel
set_option maxRecDepth 100000 in
theorem dk_Mo_tempersOf_0 : ckD prog_14_method_113_code k_Mo_tempersOf_0 = true := by decide +kernel
set_option maxRecDepth 100000 in
theorem dk_Mo_tempersOf_1 : ckD prog_14_method_113_code k_Mo_tempersOf_1 = true := by decide +kernel
theorem dk_Mo_tempersOf : ckD prog_14_method_113_code k_Mo_tempersOf = true := ckD_app dk_Mo_tempersOf_0 (dk_Mo_tempersOf_1)
set_option maxRecDepth 100000 in
theorem dk_RW_mostAlike : ckD prog_1_method_54_code k_RW_mostAlike = true := by decide +kernel
set_option maxRecDepth 100000 in
theorem dk_Mo_mostAlike_0 : ckD prog_14_method_115_code k_Mo_mostAlike_0 = true := by decide +kernel
set_option maxRecDepth 100000 in
theorem dk_Mo_mostAlike_1 : ckD prog_14_method_115_code k_Mo_mostAlike_1 = true := by decide +kernel
theorem dk_Mo_mostAlike : ckD prog_14_method_115_code k_Mo_mostAlike = true := ckD_app dk_Mo_mostAlike_0 (dk_Mo_mostAlike_1)
set_option maxRecDepth 100000 in
theorem dk_RW_share_0 : ckD prog_1_method_59_code k_RW_share_0 = true := by decide +kernel
set_option maxRecDepth 100000 in
theorem dk_RW_share_1 : ckD prog_1_method_59_code k_RW_share_1 = true := by decide +kernel
theorem dk_RW_share : ckD prog_1_method_59_code k_RW_share = true := ckD_app dk_RW_share_0 (dk_RW_share_1)
set_option maxRecDepth 100000 in
theorem dk_RW_powerOfTen : ckD prog_1_method_60_code k_RW_powerOfTen = true := by decide +kernel
set_option maxRecDepth 100000 in
theorem dk_RW_commonDivisor : ckD prog_1_method_61_code k_RW_commonDivisor = true := by decide +kernel
set_option maxRecDepth 100000 in
theorem dk_Mo_chanceOf : ckD prog_14_method_118_code k_Mo_chanceOf = true := by decide +kernel
set_option maxRecDepth 100000 in
theorem dk_Mo_wholeOf : ckD prog_14_method_117_code k_Mo_wholeOf = true := by decide +kernel
set_option maxRecDepth 100000 in
theorem dk_Mo_common : ckD prog_14_method_119_code k_Mo_common = true := by decide +kernel
set_option maxRecDepth 100000 in
theorem dk_Tray_begin : ckD prog_12_method_2_code k_Tray_begin = true := by decide +kernel
set_option maxRecDepth 100000 in
theorem dk_Tray_put : ckD prog_12_method_3_code k_Tray_put = true := by decide +kernel
set_option maxRecDepth 100000 in
theorem dk_Mo_cut : ckD prog_14_method_123_code k_Mo_cut = true := by decide +kernel
set_option maxRecDepth 100000 in
theorem dk_Mo_standThen : ckD prog_14_method_48_code k_Mo_standThen = true := by decide +kernel
set_option maxRecDepth 100000 in
theorem dk_LR_init : ckD prog_4_method_1_code k_LR_init = true := by decide +kernel
set_option maxRecDepth 100000 in
theorem dk_Lw_init : ckD prog_3_method_1_code k_Lw_init = true := by decide +kernel
set_option maxRecDepth 100000 in
theorem dk_Room_clear : ckD prog_8_method_2_code k_Room_clear = true := by decide +kernel
set_option maxRecDepth 100000 in
theorem dk_Arr_fillJ : ckD prog_21_method_101_code k_Arr_fillJ = true := by decide +kernel
set_option maxRecDepth 100000 in
theorem dk_Mat_min : ckD prog_17_method_69_code k_Mat_min = true := by decide +kernel
set_option maxRecDepth 100000 in
theorem dk_Mat_max : ckD prog_17_method_65_code k_Mat_max = true := by decide +kernel
set_option maxRecDepth 100000 in
theorem dk_Tok_splitNext_0 : ckD prog_11_method_4_code k_Tok_splitNext_0 = true := by decide +kernel
set_option maxRecDepth 100000 in
theorem dk_Tok_splitNext_1 : ckD prog_11_method_4_code k_Tok_splitNext_1 = true := by decide +kernel
set_option maxRecDepth 100000 in
theorem dk_Tok_splitNext_2 : ckD prog_11_method_4_code k_Tok_splitNext_2 = true := by decide +kernel
theorem dk_Tok_splitNext : ckD prog_11_method_4_code k_Tok_splitNext = true := ckD_app dk_Tok_splitNext_0 (ckD_app dk_Tok_splitNext_1 (dk_Tok_splitNext_2))
set_option maxRecDepth 100000 in
theorem dk_Tok_readNumber : ckD prog_11_method_5_code k_Tok_readNumber = true := by decide +kernel
set_option maxRecDepth 100000 in
theorem dk_Tok_advance : ckD prog_11_method_3_code k_Tok_advance = true := by decide +kernel
set_option maxRecDepth 100000 in
theorem dk_RR_readWall : ckD prog_9_method_3_code k_RR_readWall = true := by decide +kernel
set_option maxRecDepth 100000 in
theorem dk_RR_readLine_0 : ckD prog_9_method_4_code k_RR_readLine_0 = true := by decide +kernel
set_option maxRecDepth 100000 in
theorem dk_RR_readLine_1 : ckD prog_9_method_4_code k_RR_readLine_1 = true := by decide +kernel
theorem dk_RR_readLine : ckD prog_9_method_4_code k_RR_readLine = true := ckD_app dk_RR_readLine_0 (dk_RR_readLine_1)
set_option maxRecDepth 100000 in
theorem dk_Tok_pass : ckD prog_11_method_11_code k_Tok_pass = true := by decide +kernel
set_option maxRecDepth 100000 in
theorem dk_Mo_see : ckD prog_14_method_6_code k_Mo_see = true := by decide +kernel
set_option maxRecDepth 100000 in
theorem dk_Mo_isSmall : ckD prog_14_method_7_code k_Mo_isSmall = true := by decide +kernel
set_option maxRecDepth 100000 in
theorem dk_Mo_keyAt_0 : ckD prog_14_method_9_code k_Mo_keyAt_0 = true := by decide +kernel
set_option maxRecDepth 100000 in
theorem dk_Mo_keyAt_1 : ckD prog_14_method_9_code k_Mo_keyAt_1 = true := by decide +kernel
theorem dk_Mo_keyAt : ckD prog_14_method_9_code k_Mo_keyAt = true := ckD_app dk_Mo_keyAt_0 (dk_Mo_keyAt_1)
set_option maxRecDepth 100000 in
theorem dk_Mo_isDigit : ckD prog_14_method_8_code k_Mo_isDigit = true := by decide +kernel
set_option maxRecDepth 100000 in
theorem dk_Str_length : ckD prog_18_method_54_code k_Str_length = true := by decide +kernel
set_option maxRecDepth 100000 in
theorem dk_Str_charAt : ckD prog_18_method_56_code k_Str_charAt = true := by decide +kernel
set_option maxRecDepth 100000 in
theorem dk_Mo_is : ckD prog_14_method_12_code k_Mo_is = true := by decide +kernel
set_option maxRecDepth 100000 in
theorem dk_Mo_readRow : ckD prog_14_method_26_code k_Mo_readRow = true := by decide +kernel
set_option maxRecDepth 100000 in
theorem dk_Mo_readTenant : ckD prog_14_method_27_code k_Mo_readTenant = true := by decide +kernel
set_option maxRecDepth 100000 in
theorem dk_Mo_readRose : ckD prog_14_method_28_code k_Mo_readRose = true := by decide +kernel
set_option maxRecDepth 100000 in
theorem dk_Mo_readFace : ckD prog_14_method_29_code k_Mo_readFace = true := by decide +kernel
set_option maxRecDepth 100000 in
theorem dk_Mo_readLaw : ckD prog_14_method_30_code k_Mo_readLaw = true := by decide +kernel
set_option maxRecDepth 100000 in
theorem dk_Stp_learnTurning_0 : ckD prog_10_method_6_code k_Stp_learnTurning_0 = true := by decide +kernel
set_option maxRecDepth 100000 in
theorem dk_Stp_learnTurning_1 : ckD prog_10_method_6_code k_Stp_learnTurning_1 = true := by decide +kernel
set_option maxRecDepth 100000 in
theorem dk_Stp_learnTurning_2 : ckD prog_10_method_6_code k_Stp_learnTurning_2 = true := by decide +kernel
theorem dk_Stp_learnTurning : ckD prog_10_method_6_code k_Stp_learnTurning = true := ckD_app dk_Stp_learnTurning_0 (ckD_app dk_Stp_learnTurning_1 (dk_Stp_learnTurning_2))
set_option maxRecDepth 100000 in
theorem dk_Mo_isIn : ckD prog_14_method_15_code k_Mo_isIn = true := by decide +kernel
set_option maxRecDepth 100000 in
theorem dk_Mo_reckons_0 : ckD prog_14_method_43_code k_Mo_reckons_0 = true := by decide +kernel
set_option maxRecDepth 100000 in
theorem dk_Mo_reckons_1 : ckD prog_14_method_43_code k_Mo_reckons_1 = true := by decide +kernel
theorem dk_Mo_reckons : ckD prog_14_method_43_code k_Mo_reckons = true := ckD_app dk_Mo_reckons_0 (dk_Mo_reckons_1)
set_option maxRecDepth 100000 in
theorem dk_Lw_isTold : ckD prog_3_method_4_code k_Lw_isTold = true := by decide +kernel
set_option maxRecDepth 100000 in
theorem dk_Lw_holds_0 : ckD prog_3_method_5_code k_Lw_holds_0 = true := by decide +kernel
set_option maxRecDepth 100000 in
theorem dk_Lw_holds_1 : ckD prog_3_method_5_code k_Lw_holds_1 = true := by decide +kernel
theorem dk_Lw_holds : ckD prog_3_method_5_code k_Lw_holds = true := ckD_app dk_Lw_holds_0 (dk_Lw_holds_1)
set_option maxRecDepth 100000 in
theorem dk_Mom_goTo : ckD prog_5_method_5_code k_Mom_goTo = true := by decide +kernel
set_option maxRecDepth 100000 in
theorem dk_Mat_floorMod : ckD prog_17_method_50_code k_Mat_floorMod = true := by decide +kernel
set_option maxRecDepth 100000 in
theorem dk_RW_doLet : ckD prog_1_method_23_code k_RW_doLet = true := by decide +kernel
set_option maxRecDepth 100000 in
theorem dk_Mo_draw : ckD prog_14_method_70_code k_Mo_draw = true := by decide +kernel
set_option maxRecDepth 100000 in
theorem dk_Rch_nodeOf : ckD prog_7_method_2_code k_Rch_nodeOf = true := by decide +kernel
set_option maxRecDepth 100000 in
theorem dk_Rch_add : ckD prog_7_method_3_code k_Rch_add = true := by decide +kernel
set_option maxRecDepth 100000 in
theorem dk_Rch_isGoal : ckD prog_7_method_5_code k_Rch_isGoal = true := by decide +kernel
set_option maxRecDepth 100000 in
theorem dk_Con_begin_0 : ckD prog_2_method_4_code k_Con_begin_0 = true := by decide +kernel
set_option maxRecDepth 100000 in
theorem dk_Con_begin_1 : ckD prog_2_method_4_code k_Con_begin_1 = true := by decide +kernel
theorem dk_Con_begin : ckD prog_2_method_4_code k_Con_begin = true := ckD_app dk_Con_begin_0 (dk_Con_begin_1)
set_option maxRecDepth 100000 in
theorem dk_Con_leadOut : ckD prog_2_method_6_code k_Con_leadOut = true := by decide +kernel
set_option maxRecDepth 100000 in
theorem dk_Mo_isGone : ckD prog_14_method_77_code k_Mo_isGone = true := by decide +kernel
set_option maxRecDepth 100000 in
theorem dk_Mo_isSought : ckD prog_14_method_81_code k_Mo_isSought = true := by decide +kernel
set_option maxRecDepth 100000 in
theorem dk_Mo_leastBy : ckD prog_14_method_82_code k_Mo_leastBy = true := by decide +kernel
set_option maxRecDepth 100000 in
theorem dk_Mo_herBy : ckD prog_14_method_89_code k_Mo_herBy = true := by decide +kernel
set_option maxRecDepth 100000 in
theorem dk_Mo_mostBy : ckD prog_14_method_88_code k_Mo_mostBy = true := by decide +kernel
set_option maxRecDepth 100000 in
theorem dk_Room_fullWall : ckD prog_8_method_7_code k_Room_fullWall = true := by decide +kernel
set_option maxRecDepth 100000 in
theorem dk_Arr_fillI : ckD prog_21_method_103_code k_Arr_fillI = true := by decide +kernel
set_option maxRecDepth 100000 in
theorem dk_Rch_spreadWays : ckD prog_7_method_14_code k_Rch_spreadWays = true := by decide +kernel
set_option maxRecDepth 100000 in
theorem dk_Tray_fits : ckD prog_12_method_5_code k_Tray_fits = true := by decide +kernel
set_option maxRecDepth 100000 in
theorem dk_Mo_isSeen : ckD prog_14_method_106_code k_Mo_isSeen = true := by decide +kernel
set_option maxRecDepth 100000 in
theorem dk_RW_isTemperSeen : ckD prog_1_method_53_code k_RW_isTemperSeen = true := by decide +kernel
set_option maxRecDepth 100000 in
theorem dk_RW_alike : ckD prog_1_method_55_code k_RW_alike = true := by decide +kernel
set_option maxRecDepth 100000 in
theorem dk_Lw_clear : ckD prog_3_method_2_code k_Lw_clear = true := by decide +kernel
set_option maxRecDepth 100000 in
theorem dk_Room_shape : ckD prog_8_method_3_code k_Room_shape = true := by decide +kernel
set_option maxRecDepth 100000 in
theorem dk_Tok_isDigit : ckD prog_11_method_9_code k_Tok_isDigit = true := by decide +kernel
set_option maxRecDepth 100000 in
theorem dk_Tok_isLetter : ckD prog_11_method_10_code k_Tok_isLetter = true := by decide +kernel
set_option maxRecDepth 100000 in
theorem dk_Tok_kindOfWord_0 : ckD prog_11_method_6_code k_Tok_kindOfWord_0 = true := by decide +kernel
set_option maxRecDepth 100000 in
theorem dk_Tok_kindOfWord_1 : ckD prog_11_method_6_code k_Tok_kindOfWord_1 = true := by decide +kernel
theorem dk_Tok_kindOfWord : ckD prog_11_method_6_code k_Tok_kindOfWord = true := ckD_app dk_Tok_kindOfWord_0 (dk_Tok_kindOfWord_1)
set_option maxRecDepth 100000 in
theorem dk_Str_indexOf : ckD prog_18_method_79_code k_Str_indexOf = true := by decide +kernel
set_option maxRecDepth 100000 in
theorem dk_Tok_passNumber : ckD prog_11_method_12_code k_Tok_passNumber = true := by decide +kernel
set_option maxRecDepth 100000 in
theorem dk_Tok_refuse : ckD prog_11_method_13_code k_Tok_refuse = true := by decide +kernel
set_option maxRecDepth 100000 in
theorem dk_RR_isLine : ckD prog_9_method_5_code k_RR_isLine = true := by decide +kernel
set_option maxRecDepth 100000 in
theorem dk_RR_readKinds : ckD prog_9_method_6_code k_RR_readKinds = true := by decide +kernel
set_option maxRecDepth 100000 in
theorem dk_RR_readTenant : ckD prog_9_method_7_code k_RR_readTenant = true := by decide +kernel
set_option maxRecDepth 100000 in
theorem dk_RR_readFace : ckD prog_9_method_8_code k_RR_readFace = true := by decide +kernel
set_option maxRecDepth 100000 in
theorem dk_LR_readLaw : ckD prog_4_method_2_code k_LR_readLaw = true := by decide +kernel
set_option maxRecDepth 100000 in
theorem dk_RR_readOne : ckD prog_9_method_9_code k_RR_readOne = true := by decide +kernel
set_option maxRecDepth 100000 in
theorem dk_Str_coder : ckD prog_18_method_152_code k_Str_coder = true := by decide +kernel
set_option maxRecDepth 100000 in
theorem dk_Str_isLatin1 : ckD prog_18_method_154_code k_Str_isLatin1 = true := by decide +kernel
set_option maxRecDepth 100000 in
theorem dk_Lat_charAt : ckD prog_19_method_2_code k_Lat_charAt = true := by decide +kernel
set_option maxRecDepth 100000 in
theorem dk_Mo_readTruth : ckD prog_14_method_25_code k_Mo_readTruth = true := by decide +kernel
set_option maxRecDepth 100000 in
theorem dk_Mo_between_0 : ckD prog_14_method_42_code k_Mo_between_0 = true := by decide +kernel
set_option maxRecDepth 100000 in
theorem dk_Mo_between_1 : ckD prog_14_method_42_code k_Mo_between_1 = true := by decide +kernel
theorem dk_Mo_between : ckD prog_14_method_42_code k_Mo_between = true := ckD_app dk_Mo_between_0 (dk_Mo_between_1)
set_option maxRecDepth 100000 in
theorem dk_Lw_joined_0 : ckD prog_3_method_6_code k_Lw_joined_0 = true := by decide +kernel
set_option maxRecDepth 100000 in
theorem dk_Lw_joined_1 : ckD prog_3_method_6_code k_Lw_joined_1 = true := by decide +kernel
theorem dk_Lw_joined : ckD prog_3_method_6_code k_Lw_joined = true := ckD_app dk_Lw_joined_0 (dk_Lw_joined_1)
set_option maxRecDepth 100000 in
theorem dk_Con_addEdge : ckD prog_2_method_5_code k_Con_addEdge = true := by decide +kernel
set_option maxRecDepth 100000 in
theorem dk_Room_neighbours : ckD prog_8_method_4_code k_Room_neighbours = true := by decide +kernel
set_option maxRecDepth 100000 in
theorem dk_Tok_isWord : ckD prog_11_method_8_code k_Tok_isWord = true := by decide +kernel
set_option maxRecDepth 100000 in
theorem dk_Tok_kindOfFour_0 : ckD prog_11_method_7_code k_Tok_kindOfFour_0 = true := by decide +kernel
set_option maxRecDepth 100000 in
theorem dk_Tok_kindOfFour_1 : ckD prog_11_method_7_code k_Tok_kindOfFour_1 = true := by decide +kernel
theorem dk_Tok_kindOfFour : ckD prog_11_method_7_code k_Tok_kindOfFour = true := ckD_app dk_Tok_kindOfFour_0 (dk_Tok_kindOfFour_1)
set_option maxRecDepth 100000 in
theorem dk_Str_indexOf2 : ckD prog_18_method_80_code k_Str_indexOf2 = true := by decide +kernel
set_option maxRecDepth 100000 in
theorem dk_LR_readTruth : ckD prog_4_method_3_code k_LR_readTruth = true := by decide +kernel
set_option maxRecDepth 100000 in
theorem dk_RR_highest : ckD prog_9_method_10_code k_RR_highest = true := by decide +kernel
set_option maxRecDepth 100000 in
theorem dk_Str_checkIndex : ckD prog_18_method_155_code k_Str_checkIndex = true := by decide +kernel
set_option maxRecDepth 100000 in
theorem dk_Mo_readBoth : ckD prog_14_method_24_code k_Mo_readBoth = true := by decide +kernel
set_option maxRecDepth 100000 in
theorem dk_Mo_codes : ckD prog_14_method_18_code k_Mo_codes = true := by decide +kernel
set_option maxRecDepth 100000 in
theorem dk_Mat_abs : ckD prog_17_method_59_code k_Mat_abs = true := by decide +kernel
set_option maxRecDepth 100000 in
theorem dk_Lat_indexOf : ckD prog_19_method_22_code k_Lat_indexOf = true := by decide +kernel
set_option maxRecDepth 100000 in
theorem dk_LR_readBoth : ckD prog_4_method_4_code k_LR_readBoth = true := by decide +kernel
set_option maxRecDepth 100000 in
theorem dk_Lw_add : ckD prog_3_method_3_code k_Lw_add = true := by decide +kernel
set_option maxRecDepth 100000 in
theorem dk_Pre_checkIndex : ckD prog_22_method_11_code k_Pre_checkIndex = true := by decide +kernel
set_option maxRecDepth 100000 in
theorem dk_Mo_readUnit_0 : ckD prog_14_method_23_code k_Mo_readUnit_0 = true := by decide +kernel
set_option maxRecDepth 100000 in
theorem dk_Mo_readUnit_1 : ckD prog_14_method_23_code k_Mo_readUnit_1 = true := by decide +kernel
theorem dk_Mo_readUnit : ckD prog_14_method_23_code k_Mo_readUnit = true := ckD_app dk_Mo_readUnit_0 (dk_Mo_readUnit_1)
set_option maxRecDepth 100000 in
theorem dk_Lat_canEncode : ckD prog_19_method_4_code k_Lat_canEncode = true := by decide +kernel
set_option maxRecDepth 100000 in
theorem dk_Lat_indexOfChar : ckD prog_19_method_23_code k_Lat_indexOfChar = true := by decide +kernel
set_option maxRecDepth 100000 in
theorem dk_LR_readUnit_0 : ckD prog_4_method_5_code k_LR_readUnit_0 = true := by decide +kernel
set_option maxRecDepth 100000 in
theorem dk_LR_readUnit_1 : ckD prog_4_method_5_code k_LR_readUnit_1 = true := by decide +kernel
theorem dk_LR_readUnit : ckD prog_4_method_5_code k_LR_readUnit = true := ckD_app dk_LR_readUnit_0 (dk_LR_readUnit_1)
set_option maxRecDepth 100000 in
theorem dk_Mo_goesIn : ckD prog_14_method_19_code k_Mo_goesIn = true := by decide +kernel
set_option maxRecDepth 100000 in
theorem dk_Mo_readSum : ckD prog_14_method_22_code k_Mo_readSum = true := by decide +kernel
set_option maxRecDepth 100000 in
theorem dk_LR_enter : ckD prog_4_method_6_code k_LR_enter = true := by decide +kernel
set_option maxRecDepth 100000 in
theorem dk_LR_readSum : ckD prog_4_method_7_code k_LR_readSum = true := by decide +kernel
set_option maxRecDepth 100000 in
theorem dk_Mo_readTerm : ckD prog_14_method_21_code k_Mo_readTerm = true := by decide +kernel
set_option maxRecDepth 100000 in
theorem dk_LR_readTerm : ckD prog_4_method_8_code k_LR_readTerm = true := by decide +kernel
set_option maxRecDepth 100000 in
theorem dk_Mo_readAtom : ckD prog_14_method_20_code k_Mo_readAtom = true := by decide +kernel
set_option maxRecDepth 100000 in
theorem dk_LR_readAtom : ckD prog_4_method_9_code k_LR_readAtom = true := by decide +kernel
set_option maxRecDepth 100000 in
theorem dk_Mo_wordOf : ckD prog_14_method_17_code k_Mo_wordOf = true := by decide +kernel
set_option maxRecDepth 100000 in
theorem dk_LR_isValue : ckD prog_4_method_10_code k_LR_isValue = true := by decide +kernel
set_option maxRecDepth 100000 in
theorem dk_Mo_turnsWord : ckD prog_14_method_16_code k_Mo_turnsWord = true := by decide +kernel
theorem dks_0 : ∀ me ∈ mds_0, ckD (byt me) me.2.2.1 = true := List.forall_mem_cons.mpr ⟨dk_law, (fun _ h => absurd h List.not_mem_nil)⟩
theorem dks_1 : ∀ me ∈ mds_1, ckD (byt me) me.2.2.1 = true := List.forall_mem_cons.mpr ⟨dk_RW_init, List.forall_mem_cons.mpr ⟨dk_Mo_init, List.forall_mem_cons.mpr ⟨dk_RW_feed, List.forall_mem_cons.mpr ⟨dk_Mo_feed, List.forall_mem_cons.mpr ⟨dk_RW_room, List.forall_mem_cons.mpr ⟨dk_Mo_room, List.forall_mem_cons.mpr ⟨dk_RW_fault, List.forall_mem_cons.mpr ⟨dk_Mo_fault, List.forall_mem_cons.mpr ⟨dk_RW_rose, List.forall_mem_cons.mpr ⟨dk_Mo_rose, (fun _ h => absurd h List.not_mem_nil)⟩⟩⟩⟩⟩⟩⟩⟩⟩⟩
theorem dks_2 : ∀ me ∈ mds_2, ckD (byt me) me.2.2.1 = true := List.forall_mem_cons.mpr ⟨dk_RW_tenant, List.forall_mem_cons.mpr ⟨dk_Mo_tenant, List.forall_mem_cons.mpr ⟨dk_RW_night, List.forall_mem_cons.mpr ⟨dk_Mo_night, List.forall_mem_cons.mpr ⟨dk_RW_nights, List.forall_mem_cons.mpr ⟨dk_Mo_nights, List.forall_mem_cons.mpr ⟨dk_RW_let, List.forall_mem_cons.mpr ⟨dk_Mo_let, List.forall_mem_cons.mpr ⟨dk_RW_turn, List.forall_mem_cons.mpr ⟨dk_Mo_turn, (fun _ h => absurd h List.not_mem_nil)⟩⟩⟩⟩⟩⟩⟩⟩⟩⟩
theorem dks_3 : ∀ me ∈ mds_3, ckD (byt me) me.2.2.1 = true := List.forall_mem_cons.mpr ⟨dk_RW_temper, List.forall_mem_cons.mpr ⟨dk_Mo_temper, List.forall_mem_cons.mpr ⟨dk_RW_undo, List.forall_mem_cons.mpr ⟨dk_Mo_undo, List.forall_mem_cons.mpr ⟨dk_RW_judge, List.forall_mem_cons.mpr ⟨dk_Mo_judge, List.forall_mem_cons.mpr ⟨dk_RW_perform, List.forall_mem_cons.mpr ⟨dk_Mo_perform, List.forall_mem_cons.mpr ⟨dk_RW_season, List.forall_mem_cons.mpr ⟨dk_Mo_season, (fun _ h => absurd h List.not_mem_nil)⟩⟩⟩⟩⟩⟩⟩⟩⟩⟩
theorem dks_4 : ∀ me ∈ mds_4, ckD (byt me) me.2.2.1 = true := List.forall_mem_cons.mpr ⟨dk_RW_lies, List.forall_mem_cons.mpr ⟨dk_Mo_lies, List.forall_mem_cons.mpr ⟨dk_RW_round, List.forall_mem_cons.mpr ⟨dk_Mo_round, List.forall_mem_cons.mpr ⟨dk_RW_stays, List.forall_mem_cons.mpr ⟨dk_Mo_stays, List.forall_mem_cons.mpr ⟨dk_RW_stayBy, List.forall_mem_cons.mpr ⟨dk_Mo_stayBy, List.forall_mem_cons.mpr ⟨dk_RW_out, List.forall_mem_cons.mpr ⟨dk_Mo_out, (fun _ h => absurd h List.not_mem_nil)⟩⟩⟩⟩⟩⟩⟩⟩⟩⟩
theorem dks_5 : ∀ me ∈ mds_5, ckD (byt me) me.2.2.1 = true := List.forall_mem_cons.mpr ⟨dk_RW_outBy, List.forall_mem_cons.mpr ⟨dk_Mo_outBy, List.forall_mem_cons.mpr ⟨dk_RW_forces, List.forall_mem_cons.mpr ⟨dk_Mo_forces, List.forall_mem_cons.mpr ⟨dk_RW_minds, List.forall_mem_cons.mpr ⟨dk_Mo_minds, List.forall_mem_cons.mpr ⟨dk_RW_soonest, List.forall_mem_cons.mpr ⟨dk_Mo_soonest, List.forall_mem_cons.mpr ⟨dk_RW_way, List.forall_mem_cons.mpr ⟨dk_Mo_way, (fun _ h => absurd h List.not_mem_nil)⟩⟩⟩⟩⟩⟩⟩⟩⟩⟩
theorem dks_6 : ∀ me ∈ mds_6, ckD (byt me) me.2.2.1 = true := List.forall_mem_cons.mpr ⟨dk_RW_toFace, List.forall_mem_cons.mpr ⟨dk_Mo_toFace, List.forall_mem_cons.mpr ⟨dk_RW_walls, List.forall_mem_cons.mpr ⟨dk_Mo_walls, List.forall_mem_cons.mpr ⟨dk_RW_parents, List.forall_mem_cons.mpr ⟨dk_Mo_parents, List.forall_mem_cons.mpr ⟨dk_RW_orphans, List.forall_mem_cons.mpr ⟨dk_Mo_orphans, List.forall_mem_cons.mpr ⟨dk_RW_still, List.forall_mem_cons.mpr ⟨dk_Mo_still, (fun _ h => absurd h List.not_mem_nil)⟩⟩⟩⟩⟩⟩⟩⟩⟩⟩
theorem dks_7 : ∀ me ∈ mds_7, ckD (byt me) me.2.2.1 = true := List.forall_mem_cons.mpr ⟨dk_RW_rows, List.forall_mem_cons.mpr ⟨dk_Mo_rows, List.forall_mem_cons.mpr ⟨dk_RW_seen, List.forall_mem_cons.mpr ⟨dk_Mo_seen, List.forall_mem_cons.mpr ⟨dk_RW_seenBy, List.forall_mem_cons.mpr ⟨dk_Mo_seenBy, List.forall_mem_cons.mpr ⟨dk_RW_whose, List.forall_mem_cons.mpr ⟨dk_Mo_whose, List.forall_mem_cons.mpr ⟨dk_RW_tempers, List.forall_mem_cons.mpr ⟨dk_Mo_tempers, (fun _ h => absurd h List.not_mem_nil)⟩⟩⟩⟩⟩⟩⟩⟩⟩⟩
theorem dks_8 : ∀ me ∈ mds_8, ckD (byt me) me.2.2.1 = true := List.forall_mem_cons.mpr ⟨dk_RW_attempt, List.forall_mem_cons.mpr ⟨dk_Mo_attempt, List.forall_mem_cons.mpr ⟨dk_RW_chance, List.forall_mem_cons.mpr ⟨dk_Mo_chance, List.forall_mem_cons.mpr ⟨dk_RW_gone, List.forall_mem_cons.mpr ⟨dk_Mo_gone, List.forall_mem_cons.mpr ⟨dk_RW_best, List.forall_mem_cons.mpr ⟨dk_Mo_best, List.forall_mem_cons.mpr ⟨dk_RW_numbers, List.forall_mem_cons.mpr ⟨dk_Mo_numbers, (fun _ h => absurd h List.not_mem_nil)⟩⟩⟩⟩⟩⟩⟩⟩⟩⟩
theorem dks_9 : ∀ me ∈ mds_9, ckD (byt me) me.2.2.1 = true := List.forall_mem_cons.mpr ⟨dk_RW_write, List.forall_mem_cons.mpr ⟨dk_Mo_write, List.forall_mem_cons.mpr ⟨dk_RW_lists, List.forall_mem_cons.mpr ⟨dk_Mo_lists, List.forall_mem_cons.mpr ⟨dk_RW_image, List.forall_mem_cons.mpr ⟨dk_Mo_image, List.forall_mem_cons.mpr ⟨dk_RW_restore, List.forall_mem_cons.mpr ⟨dk_Mo_restore, List.forall_mem_cons.mpr ⟨dk_RW_count, List.forall_mem_cons.mpr ⟨dk_Mo_count, (fun _ h => absurd h List.not_mem_nil)⟩⟩⟩⟩⟩⟩⟩⟩⟩⟩
theorem dks_10 : ∀ me ∈ mds_10, ckD (byt me) me.2.2.1 = true := List.forall_mem_cons.mpr ⟨dk_Tok_init, List.forall_mem_cons.mpr ⟨dk_RR_init, List.forall_mem_cons.mpr ⟨dk_Mom_init, List.forall_mem_cons.mpr ⟨dk_Past_init, List.forall_mem_cons.mpr ⟨dk_Stp_init, List.forall_mem_cons.mpr ⟨dk_Rch_init, List.forall_mem_cons.mpr ⟨dk_Con_init, List.forall_mem_cons.mpr ⟨dk_Room_init, List.forall_mem_cons.mpr ⟨dk_Tray_init, List.forall_mem_cons.mpr ⟨dk_Mom_begin, (fun _ h => absurd h List.not_mem_nil)⟩⟩⟩⟩⟩⟩⟩⟩⟩⟩
theorem dks_11 : ∀ me ∈ mds_11, ckD (byt me) me.2.2.1 = true := List.forall_mem_cons.mpr ⟨dk_Stp_take, List.forall_mem_cons.mpr ⟨dk_Mo_plain, List.forall_mem_cons.mpr ⟨dk_RW_tapeFour, List.forall_mem_cons.mpr ⟨dk_RW_spareRoom, List.forall_mem_cons.mpr ⟨dk_Tok_begin, List.forall_mem_cons.mpr ⟨dk_RR_readRoom, List.forall_mem_cons.mpr ⟨dk_Past_clear, List.forall_mem_cons.mpr ⟨dk_Mo_within, List.forall_mem_cons.mpr ⟨dk_Mo_next, List.forall_mem_cons.mpr ⟨dk_Mo_eats, (fun _ h => absurd h List.not_mem_nil)⟩⟩⟩⟩⟩⟩⟩⟩⟩⟩
theorem dks_12 : ∀ me ∈ mds_12, ckD (byt me) me.2.2.1 = true := List.forall_mem_cons.mpr ⟨dk_Mo_fails, List.forall_mem_cons.mpr ⟨dk_Mo_takes, List.forall_mem_cons.mpr ⟨dk_Mo_ends, List.forall_mem_cons.mpr ⟨dk_Mo_readLine, List.forall_mem_cons.mpr ⟨dk_Room_hasRose, List.forall_mem_cons.mpr ⟨dk_Int_bitCount, List.forall_mem_cons.mpr ⟨dk_Mom_place, List.forall_mem_cons.mpr ⟨dk_Stp_pass, List.forall_mem_cons.mpr ⟨dk_Mo_isRose, List.forall_mem_cons.mpr ⟨dk_Mo_nearOf, (fun _ h => absurd h List.not_mem_nil)⟩⟩⟩⟩⟩⟩⟩⟩⟩⟩
theorem dks_13 : ∀ me ∈ mds_13, ckD (byt me) me.2.2.1 = true := List.forall_mem_cons.mpr ⟨dk_Mo_turnsThen, List.forall_mem_cons.mpr ⟨dk_Room_hasTenant, List.forall_mem_cons.mpr ⟨dk_Stp_isGoing, List.forall_mem_cons.mpr ⟨dk_Mo_isTenant, List.forall_mem_cons.mpr ⟨dk_Mo_goesBy, List.forall_mem_cons.mpr ⟨dk_RW_doneAlone, List.forall_mem_cons.mpr ⟨dk_Mo_isBlind, List.forall_mem_cons.mpr ⟨dk_Mo_keeps, List.forall_mem_cons.mpr ⟨dk_Mo_goesNight, List.forall_mem_cons.mpr ⟨dk_Mo_notes, (fun _ h => absurd h List.not_mem_nil)⟩⟩⟩⟩⟩⟩⟩⟩⟩⟩
theorem dks_14 : ∀ me ∈ mds_14, ckD (byt me) me.2.2.1 = true := List.forall_mem_cons.mpr ⟨dk_RW_isBlind, List.forall_mem_cons.mpr ⟨dk_Past_keep, List.forall_mem_cons.mpr ⟨dk_RW_passNight, List.forall_mem_cons.mpr ⟨dk_Mo_whyLet, List.forall_mem_cons.mpr ⟨dk_Mo_bitsOf, List.forall_mem_cons.mpr ⟨dk_Past_bringBack, List.forall_mem_cons.mpr ⟨dk_RW_isTray, List.forall_mem_cons.mpr ⟨dk_Mom_copy, List.forall_mem_cons.mpr ⟨dk_RW_doTray, List.forall_mem_cons.mpr ⟨dk_Tray_at, (fun _ h => absurd h List.not_mem_nil)⟩⟩⟩⟩⟩⟩⟩⟩⟩⟩
theorem dks_15 : ∀ me ∈ mds_15, ckD (byt me) me.2.2.1 = true := List.forall_mem_cons.mpr ⟨dk_RW_doDeed, List.forall_mem_cons.mpr ⟨dk_Mo_noTray, List.forall_mem_cons.mpr ⟨dk_Mo_tells, List.forall_mem_cons.mpr ⟨dk_Mo_isAgain, List.forall_mem_cons.mpr ⟨dk_Mo_toldWho, List.forall_mem_cons.mpr ⟨dk_RW_drawn, List.forall_mem_cons.mpr ⟨dk_RW_seasonDeed, List.forall_mem_cons.mpr ⟨dk_Mo_drawn, List.forall_mem_cons.mpr ⟨dk_Mo_whyNot, List.forall_mem_cons.mpr ⟨dk_Mo_does, (fun _ h => absurd h List.not_mem_nil)⟩⟩⟩⟩⟩⟩⟩⟩⟩⟩
theorem dks_16 : ∀ me ∈ mds_16, ckD (byt me) me.2.2.1 = true := List.forall_mem_cons.mpr ⟨dk_RW_here, List.forall_mem_cons.mpr ⟨dk_Rch_walk, List.forall_mem_cons.mpr ⟨dk_Rch_placeBehind, List.forall_mem_cons.mpr ⟨dk_Mo_laysRound, List.forall_mem_cons.mpr ⟨dk_Rch_mostTurned, List.forall_mem_cons.mpr ⟨dk_Rch_firstEmpty, List.forall_mem_cons.mpr ⟨dk_Rch_explore, List.forall_mem_cons.mpr ⟨dk_Con_settle, List.forall_mem_cons.mpr ⟨dk_Con_level, List.forall_mem_cons.mpr ⟨dk_Mo_laysStays, (fun _ h => absurd h List.not_mem_nil)⟩⟩⟩⟩⟩⟩⟩⟩⟩⟩
theorem dks_17 : ∀ me ∈ mds_17, ckD (byt me) me.2.2.1 = true := List.forall_mem_cons.mpr ⟨dk_Con_stayBlind, List.forall_mem_cons.mpr ⟨dk_Mo_standNow, List.forall_mem_cons.mpr ⟨dk_Rch_depth, List.forall_mem_cons.mpr ⟨dk_Mo_laysFar, List.forall_mem_cons.mpr ⟨dk_Mo_toldFar, List.forall_mem_cons.mpr ⟨dk_Rch_blindTo, List.forall_mem_cons.mpr ⟨dk_Mo_blindAt, List.forall_mem_cons.mpr ⟨dk_Mo_laysForced, List.forall_mem_cons.mpr ⟨dk_Con_forcingBlind, List.forall_mem_cons.mpr ⟨dk_Room_hasWall, (fun _ h => absurd h List.not_mem_nil)⟩⟩⟩⟩⟩⟩⟩⟩⟩⟩
theorem dks_18 : ∀ me ∈ mds_18, ckD (byt me) me.2.2.1 = true := List.forall_mem_cons.mpr ⟨dk_Mo_isWall, List.forall_mem_cons.mpr ⟨dk_Rch_differentWalls, List.forall_mem_cons.mpr ⟨dk_Mo_beginsMany, List.forall_mem_cons.mpr ⟨dk_Mo_standOf, List.forall_mem_cons.mpr ⟨dk_Stp_tune, List.forall_mem_cons.mpr ⟨dk_Stp_comingTo, List.forall_mem_cons.mpr ⟨dk_Mo_laysFrom, List.forall_mem_cons.mpr ⟨dk_Stp_comingOfNone, List.forall_mem_cons.mpr ⟨dk_Mo_noSo, List.forall_mem_cons.mpr ⟨dk_Mo_roses, (fun _ h => absurd h List.not_mem_nil)⟩⟩⟩⟩⟩⟩⟩⟩⟩⟩
theorem dks_19 : ∀ me ∈ mds_19, ckD (byt me) me.2.2.1 = true := List.forall_mem_cons.mpr ⟨dk_Stp_stayingSame, List.forall_mem_cons.mpr ⟨dk_Mo_wallThen, List.forall_mem_cons.mpr ⟨dk_Rch_rowsTo, List.forall_mem_cons.mpr ⟨dk_Mo_goesMany, List.forall_mem_cons.mpr ⟨dk_RW_refusedSeen, List.forall_mem_cons.mpr ⟨dk_RW_rowsSeen, List.forall_mem_cons.mpr ⟨dk_Mo_noSeen, List.forall_mem_cons.mpr ⟨dk_Mo_laysThen, List.forall_mem_cons.mpr ⟨dk_Mo_isRow, List.forall_mem_cons.mpr ⟨dk_RW_isFirstBlind, (fun _ h => absurd h List.not_mem_nil)⟩⟩⟩⟩⟩⟩⟩⟩⟩⟩
theorem dks_20 : ∀ me ∈ mds_20, ckD (byt me) me.2.2.1 = true := List.forall_mem_cons.mpr ⟨dk_Stp_next, List.forall_mem_cons.mpr ⟨dk_Mo_blindIn, List.forall_mem_cons.mpr ⟨dk_RW_placeOf, List.forall_mem_cons.mpr ⟨dk_RW_refusedTempers, List.forall_mem_cons.mpr ⟨dk_RW_tempersSeen, List.forall_mem_cons.mpr ⟨dk_Mo_noBlinds, List.forall_mem_cons.mpr ⟨dk_Mo_tempersOf, List.forall_mem_cons.mpr ⟨dk_RW_mostAlike, List.forall_mem_cons.mpr ⟨dk_Mo_mostAlike, List.forall_mem_cons.mpr ⟨dk_RW_share, (fun _ h => absurd h List.not_mem_nil)⟩⟩⟩⟩⟩⟩⟩⟩⟩⟩
theorem dks_21 : ∀ me ∈ mds_21, ckD (byt me) me.2.2.1 = true := List.forall_mem_cons.mpr ⟨dk_RW_powerOfTen, List.forall_mem_cons.mpr ⟨dk_RW_commonDivisor, List.forall_mem_cons.mpr ⟨dk_Mo_chanceOf, List.forall_mem_cons.mpr ⟨dk_Mo_wholeOf, List.forall_mem_cons.mpr ⟨dk_Mo_common, List.forall_mem_cons.mpr ⟨dk_Tray_begin, List.forall_mem_cons.mpr ⟨dk_Tray_put, List.forall_mem_cons.mpr ⟨dk_Mo_cut, List.forall_mem_cons.mpr ⟨dk_Mo_standThen, List.forall_mem_cons.mpr ⟨dk_LR_init, (fun _ h => absurd h List.not_mem_nil)⟩⟩⟩⟩⟩⟩⟩⟩⟩⟩
theorem dks_22 : ∀ me ∈ mds_22, ckD (byt me) me.2.2.1 = true := List.forall_mem_cons.mpr ⟨dk_Lw_init, List.forall_mem_cons.mpr ⟨dk_Room_clear, List.forall_mem_cons.mpr ⟨dk_Arr_fillJ, List.forall_mem_cons.mpr ⟨dk_Mat_min, List.forall_mem_cons.mpr ⟨dk_Mat_max, List.forall_mem_cons.mpr ⟨dk_Tok_splitNext, List.forall_mem_cons.mpr ⟨dk_Tok_readNumber, List.forall_mem_cons.mpr ⟨dk_Tok_advance, List.forall_mem_cons.mpr ⟨dk_RR_readWall, List.forall_mem_cons.mpr ⟨dk_RR_readLine, (fun _ h => absurd h List.not_mem_nil)⟩⟩⟩⟩⟩⟩⟩⟩⟩⟩
theorem dks_23 : ∀ me ∈ mds_23, ckD (byt me) me.2.2.1 = true := List.forall_mem_cons.mpr ⟨dk_Tok_pass, List.forall_mem_cons.mpr ⟨dk_Mo_see, List.forall_mem_cons.mpr ⟨dk_Mo_isSmall, List.forall_mem_cons.mpr ⟨dk_Mo_keyAt, List.forall_mem_cons.mpr ⟨dk_Mo_isDigit, List.forall_mem_cons.mpr ⟨dk_Str_length, List.forall_mem_cons.mpr ⟨dk_Str_charAt, List.forall_mem_cons.mpr ⟨dk_Mo_is, List.forall_mem_cons.mpr ⟨dk_Mo_readRow, List.forall_mem_cons.mpr ⟨dk_Mo_readTenant, (fun _ h => absurd h List.not_mem_nil)⟩⟩⟩⟩⟩⟩⟩⟩⟩⟩
theorem dks_24 : ∀ me ∈ mds_24, ckD (byt me) me.2.2.1 = true := List.forall_mem_cons.mpr ⟨dk_Mo_readRose, List.forall_mem_cons.mpr ⟨dk_Mo_readFace, List.forall_mem_cons.mpr ⟨dk_Mo_readLaw, List.forall_mem_cons.mpr ⟨dk_Stp_learnTurning, List.forall_mem_cons.mpr ⟨dk_Mo_isIn, List.forall_mem_cons.mpr ⟨dk_Mo_reckons, List.forall_mem_cons.mpr ⟨dk_Lw_isTold, List.forall_mem_cons.mpr ⟨dk_Lw_holds, List.forall_mem_cons.mpr ⟨dk_Mom_goTo, List.forall_mem_cons.mpr ⟨dk_Mat_floorMod, (fun _ h => absurd h List.not_mem_nil)⟩⟩⟩⟩⟩⟩⟩⟩⟩⟩
theorem dks_25 : ∀ me ∈ mds_25, ckD (byt me) me.2.2.1 = true := List.forall_mem_cons.mpr ⟨dk_RW_doLet, List.forall_mem_cons.mpr ⟨dk_Mo_draw, List.forall_mem_cons.mpr ⟨dk_Rch_nodeOf, List.forall_mem_cons.mpr ⟨dk_Rch_add, List.forall_mem_cons.mpr ⟨dk_Rch_isGoal, List.forall_mem_cons.mpr ⟨dk_Con_begin, List.forall_mem_cons.mpr ⟨dk_Con_leadOut, List.forall_mem_cons.mpr ⟨dk_Mo_isGone, List.forall_mem_cons.mpr ⟨dk_Mo_isSought, List.forall_mem_cons.mpr ⟨dk_Mo_leastBy, (fun _ h => absurd h List.not_mem_nil)⟩⟩⟩⟩⟩⟩⟩⟩⟩⟩
theorem dks_26 : ∀ me ∈ mds_26, ckD (byt me) me.2.2.1 = true := List.forall_mem_cons.mpr ⟨dk_Mo_herBy, List.forall_mem_cons.mpr ⟨dk_Mo_mostBy, List.forall_mem_cons.mpr ⟨dk_Room_fullWall, List.forall_mem_cons.mpr ⟨dk_Arr_fillI, List.forall_mem_cons.mpr ⟨dk_Rch_spreadWays, List.forall_mem_cons.mpr ⟨dk_Tray_fits, List.forall_mem_cons.mpr ⟨dk_Mo_isSeen, List.forall_mem_cons.mpr ⟨dk_RW_isTemperSeen, List.forall_mem_cons.mpr ⟨dk_RW_alike, List.forall_mem_cons.mpr ⟨dk_Lw_clear, (fun _ h => absurd h List.not_mem_nil)⟩⟩⟩⟩⟩⟩⟩⟩⟩⟩
theorem dks_27 : ∀ me ∈ mds_27, ckD (byt me) me.2.2.1 = true := List.forall_mem_cons.mpr ⟨dk_Room_shape, List.forall_mem_cons.mpr ⟨dk_Tok_isDigit, List.forall_mem_cons.mpr ⟨dk_Tok_isLetter, List.forall_mem_cons.mpr ⟨dk_Tok_kindOfWord, List.forall_mem_cons.mpr ⟨dk_Str_indexOf, List.forall_mem_cons.mpr ⟨dk_Tok_passNumber, List.forall_mem_cons.mpr ⟨dk_Tok_refuse, List.forall_mem_cons.mpr ⟨dk_RR_isLine, List.forall_mem_cons.mpr ⟨dk_RR_readKinds, List.forall_mem_cons.mpr ⟨dk_RR_readTenant, (fun _ h => absurd h List.not_mem_nil)⟩⟩⟩⟩⟩⟩⟩⟩⟩⟩
theorem dks_28 : ∀ me ∈ mds_28, ckD (byt me) me.2.2.1 = true := List.forall_mem_cons.mpr ⟨dk_RR_readFace, List.forall_mem_cons.mpr ⟨dk_LR_readLaw, List.forall_mem_cons.mpr ⟨dk_RR_readOne, List.forall_mem_cons.mpr ⟨dk_Str_coder, List.forall_mem_cons.mpr ⟨dk_Str_isLatin1, List.forall_mem_cons.mpr ⟨dk_Lat_charAt, List.forall_mem_cons.mpr ⟨dk_Mo_readTruth, List.forall_mem_cons.mpr ⟨dk_Mo_between, List.forall_mem_cons.mpr ⟨dk_Lw_joined, List.forall_mem_cons.mpr ⟨dk_Con_addEdge, (fun _ h => absurd h List.not_mem_nil)⟩⟩⟩⟩⟩⟩⟩⟩⟩⟩
theorem dks_29 : ∀ me ∈ mds_29, ckD (byt me) me.2.2.1 = true := List.forall_mem_cons.mpr ⟨dk_Room_neighbours, List.forall_mem_cons.mpr ⟨dk_Tok_isWord, List.forall_mem_cons.mpr ⟨dk_Tok_kindOfFour, List.forall_mem_cons.mpr ⟨dk_Str_indexOf2, List.forall_mem_cons.mpr ⟨dk_LR_readTruth, List.forall_mem_cons.mpr ⟨dk_RR_highest, List.forall_mem_cons.mpr ⟨dk_Str_checkIndex, List.forall_mem_cons.mpr ⟨dk_Mo_readBoth, List.forall_mem_cons.mpr ⟨dk_Mo_codes, List.forall_mem_cons.mpr ⟨dk_Mat_abs, (fun _ h => absurd h List.not_mem_nil)⟩⟩⟩⟩⟩⟩⟩⟩⟩⟩
theorem dks_30 : ∀ me ∈ mds_30, ckD (byt me) me.2.2.1 = true := List.forall_mem_cons.mpr ⟨dk_Lat_indexOf, List.forall_mem_cons.mpr ⟨dk_LR_readBoth, List.forall_mem_cons.mpr ⟨dk_Lw_add, List.forall_mem_cons.mpr ⟨dk_Pre_checkIndex, List.forall_mem_cons.mpr ⟨dk_Mo_readUnit, List.forall_mem_cons.mpr ⟨dk_Lat_canEncode, List.forall_mem_cons.mpr ⟨dk_Lat_indexOfChar, List.forall_mem_cons.mpr ⟨dk_LR_readUnit, List.forall_mem_cons.mpr ⟨dk_Mo_goesIn, List.forall_mem_cons.mpr ⟨dk_Mo_readSum, (fun _ h => absurd h List.not_mem_nil)⟩⟩⟩⟩⟩⟩⟩⟩⟩⟩
theorem dks_31 : ∀ me ∈ mds_31, ckD (byt me) me.2.2.1 = true := List.forall_mem_cons.mpr ⟨dk_LR_enter, List.forall_mem_cons.mpr ⟨dk_LR_readSum, List.forall_mem_cons.mpr ⟨dk_Mo_readTerm, List.forall_mem_cons.mpr ⟨dk_LR_readTerm, List.forall_mem_cons.mpr ⟨dk_Mo_readAtom, List.forall_mem_cons.mpr ⟨dk_LR_readAtom, List.forall_mem_cons.mpr ⟨dk_Mo_wordOf, List.forall_mem_cons.mpr ⟨dk_LR_isValue, List.forall_mem_cons.mpr ⟨dk_Mo_turnsWord, (fun _ h => absurd h List.not_mem_nil)⟩⟩⟩⟩⟩⟩⟩⟩⟩
theorem dk_all : ∀ me ∈ mds, ckD (byt me) me.2.2.1 = true := List.forall_mem_append.mpr ⟨dks_0, List.forall_mem_append.mpr ⟨dks_1, List.forall_mem_append.mpr ⟨dks_2, List.forall_mem_append.mpr ⟨dks_3, List.forall_mem_append.mpr ⟨dks_4, List.forall_mem_append.mpr ⟨dks_5, List.forall_mem_append.mpr ⟨dks_6, List.forall_mem_append.mpr ⟨dks_7, List.forall_mem_append.mpr ⟨dks_8, List.forall_mem_append.mpr ⟨dks_9, List.forall_mem_append.mpr ⟨dks_10, List.forall_mem_append.mpr ⟨dks_11, List.forall_mem_append.mpr ⟨dks_12, List.forall_mem_append.mpr ⟨dks_13, List.forall_mem_append.mpr ⟨dks_14, List.forall_mem_append.mpr ⟨dks_15, List.forall_mem_append.mpr ⟨dks_16, List.forall_mem_append.mpr ⟨dks_17, List.forall_mem_append.mpr ⟨dks_18, List.forall_mem_append.mpr ⟨dks_19, List.forall_mem_append.mpr ⟨dks_20, List.forall_mem_append.mpr ⟨dks_21, List.forall_mem_append.mpr ⟨dks_22, List.forall_mem_append.mpr ⟨dks_23, List.forall_mem_append.mpr ⟨dks_24, List.forall_mem_append.mpr ⟨dks_25, List.forall_mem_append.mpr ⟨dks_26, List.forall_mem_append.mpr ⟨dks_27, List.forall_mem_append.mpr ⟨dks_28, List.forall_mem_append.mpr ⟨dks_29, List.forall_mem_append.mpr ⟨dks_30, dks_31⟩⟩⟩⟩⟩⟩⟩⟩⟩⟩⟩⟩⟩⟩⟩⟩⟩⟩⟩⟩⟩⟩⟩⟩⟩⟩⟩⟩⟩⟩⟩

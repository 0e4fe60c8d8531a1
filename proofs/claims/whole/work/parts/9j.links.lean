/-! the links of the law, and its cases -/
set_option maxHeartbeats 400000 in
theorem lL_TJ_set : LkL 13 q_TJ_set 2 := ⟨⟨gwI 352 (by decide +kernel), gwI 353 (by decide +kernel), gwI 354 (by decide +kernel), gwI 80 (by decide +kernel), q_TJ_set_c⟩, rfl, by decide +kernel, by decide +kernel, by decide +kernel⟩
set_option maxHeartbeats 400000 in
theorem lL_Mo_set : LkL 17 q_Mo_set 2 := ⟨⟨gwI 972 (by decide +kernel), gwI 973 (by decide +kernel), gwI 974 (by decide +kernel), gwI 89 (by decide +kernel), q_Mo_set_c⟩, rfl, by decide +kernel, by decide +kernel, by decide +kernel⟩
set_option maxHeartbeats 400000 in
theorem lL_TJ_batch : LkL 18 q_TJ_batch 5 := ⟨⟨gwI 367 (by decide +kernel), gwI 368 (by decide +kernel), gwI 369 (by decide +kernel), gwI 80 (by decide +kernel), q_TJ_batch_c⟩, rfl, by decide +kernel, by decide +kernel, by decide +kernel⟩
set_option maxHeartbeats 400000 in
theorem lL_Mo_batch : LkL 22 q_Mo_batch 5 := ⟨⟨gwI 984 (by decide +kernel), gwI 985 (by decide +kernel), gwI 986 (by decide +kernel), gwI 89 (by decide +kernel), q_Mo_batch_c⟩, rfl, by decide +kernel, by decide +kernel, by decide +kernel⟩
set_option maxHeartbeats 400000 in
theorem lL_TJ_clear : LkL 23 q_TJ_clear 0 := ⟨⟨gwI 375 (by decide +kernel), gwI 376 (by decide +kernel), gwI 377 (by decide +kernel), gwI 80 (by decide +kernel), q_TJ_clear_c⟩, rfl, by decide +kernel, by decide +kernel, by decide +kernel⟩
set_option maxHeartbeats 400000 in
theorem lL_Mo_clear : LkL 27 q_Mo_clear 0 := ⟨⟨gwI 992 (by decide +kernel), gwI 993 (by decide +kernel), gwI 994 (by decide +kernel), gwI 89 (by decide +kernel), q_Mo_clear_c⟩, rfl, by decide +kernel, by decide +kernel, by decide +kernel⟩
set_option maxHeartbeats 400000 in
theorem lL_TJ_load : LkL 28 q_TJ_load 1 := ⟨⟨gwI 379 (by decide +kernel), gwI 380 (by decide +kernel), gwI 381 (by decide +kernel), gwI 80 (by decide +kernel), q_TJ_load_c⟩, rfl, by decide +kernel, by decide +kernel, by decide +kernel⟩
set_option maxHeartbeats 400000 in
theorem lL_Mo_load : LkL 32 q_Mo_load 1 := ⟨⟨gwI 996 (by decide +kernel), gwI 997 (by decide +kernel), gwI 998 (by decide +kernel), gwI 89 (by decide +kernel), q_Mo_load_c⟩, rfl, by decide +kernel, by decide +kernel, by decide +kernel⟩
set_option maxHeartbeats 400000 in
theorem lL_TJ_add : LkL 33 q_TJ_add 6 := ⟨⟨gwI 410 (by decide +kernel), gwI 411 (by decide +kernel), gwI 412 (by decide +kernel), gwI 80 (by decide +kernel), q_TJ_add_c⟩, rfl, by decide +kernel, by decide +kernel, by decide +kernel⟩
set_option maxHeartbeats 400000 in
theorem lL_Mo_add : LkL 37 q_Mo_add 6 := ⟨⟨gwI 1028 (by decide +kernel), gwI 1029 (by decide +kernel), gwI 1030 (by decide +kernel), gwI 89 (by decide +kernel), q_Mo_add_c⟩, rfl, by decide +kernel, by decide +kernel, by decide +kernel⟩
set_option maxHeartbeats 400000 in
theorem lL_TJ_trouble : LkL 38 q_TJ_trouble 2 := ⟨⟨gwI 414 (by decide +kernel), gwI 415 (by decide +kernel), gwI 416 (by decide +kernel), gwI 80 (by decide +kernel), q_TJ_trouble_c⟩, rfl, by decide +kernel, by decide +kernel, by decide +kernel⟩
set_option maxHeartbeats 400000 in
theorem lL_Mo_trouble : LkL 42 q_Mo_trouble 2 := ⟨⟨gwI 964 (by decide +kernel), gwI 965 (by decide +kernel), gwI 966 (by decide +kernel), gwI 89 (by decide +kernel), q_Mo_trouble_c⟩, rfl, by decide +kernel, by decide +kernel, by decide +kernel⟩
set_option maxHeartbeats 400000 in
theorem lL_TJ_sweep : LkL 43 q_TJ_sweep 0 := ⟨⟨gwI 419 (by decide +kernel), gwI 420 (by decide +kernel), gwI 421 (by decide +kernel), gwI 80 (by decide +kernel), q_TJ_sweep_c⟩, rfl, by decide +kernel, by decide +kernel, by decide +kernel⟩
set_option maxHeartbeats 400000 in
theorem lL_Mo_sweep : LkL 46 q_Mo_sweep 0 := ⟨⟨gwI 1032 (by decide +kernel), gwI 1033 (by decide +kernel), gwI 1034 (by decide +kernel), gwI 89 (by decide +kernel), q_Mo_sweep_c⟩, rfl, by decide +kernel, by decide +kernel, by decide +kernel⟩
set_option maxHeartbeats 400000 in
theorem lL_TJ_step : LkL 47 q_TJ_step 1 := ⟨⟨gwI 479 (by decide +kernel), gwI 480 (by decide +kernel), gwI 481 (by decide +kernel), gwI 80 (by decide +kernel), q_TJ_step_c⟩, rfl, by decide +kernel, by decide +kernel, by decide +kernel⟩
set_option maxHeartbeats 400000 in
theorem lL_Mo_step : LkL 50 q_Mo_step 1 := ⟨⟨gwI 1083 (by decide +kernel), gwI 1084 (by decide +kernel), gwI 1085 (by decide +kernel), gwI 89 (by decide +kernel), q_Mo_step_c⟩, rfl, by decide +kernel, by decide +kernel, by decide +kernel⟩
set_option maxHeartbeats 400000 in
theorem lL_TJ_leave : LkL 51 q_TJ_leave 0 := ⟨⟨gwI 531 (by decide +kernel), gwI 532 (by decide +kernel), gwI 533 (by decide +kernel), gwI 80 (by decide +kernel), q_TJ_leave_c⟩, rfl, by decide +kernel, by decide +kernel, by decide +kernel⟩
set_option maxHeartbeats 400000 in
theorem lL_Mo_leave : LkL 55 q_Mo_leave 0 := ⟨⟨gwI 1125 (by decide +kernel), gwI 1126 (by decide +kernel), gwI 1127 (by decide +kernel), gwI 89 (by decide +kernel), q_Mo_leave_c⟩, rfl, by decide +kernel, by decide +kernel, by decide +kernel⟩
set_option maxHeartbeats 400000 in
theorem lL_TJ_row : LkL 56 q_TJ_row 3 := ⟨⟨gwI 570 (by decide +kernel), gwI 571 (by decide +kernel), gwI 572 (by decide +kernel), gwI 80 (by decide +kernel), q_TJ_row_c⟩, rfl, by decide +kernel, by decide +kernel, by decide +kernel⟩
set_option maxHeartbeats 400000 in
theorem lL_Mo_row : LkL 60 q_Mo_row 3 := ⟨⟨gwI 1176 (by decide +kernel), gwI 1177 (by decide +kernel), gwI 1178 (by decide +kernel), gwI 89 (by decide +kernel), q_Mo_row_c⟩, rfl, by decide +kernel, by decide +kernel, by decide +kernel⟩
set_option maxHeartbeats 400000 in
theorem lL_TJ_kind : LkL 61 q_TJ_kind 4 := ⟨⟨gwI 639 (by decide +kernel), gwI 640 (by decide +kernel), gwI 641 (by decide +kernel), gwI 80 (by decide +kernel), q_TJ_kind_c⟩, rfl, by decide +kernel, by decide +kernel, by decide +kernel⟩
set_option maxHeartbeats 400000 in
theorem lL_Mo_kind : LkL 65 q_Mo_kind 4 := ⟨⟨gwI 1220 (by decide +kernel), gwI 1221 (by decide +kernel), gwI 1222 (by decide +kernel), gwI 89 (by decide +kernel), q_Mo_kind_c⟩, rfl, by decide +kernel, by decide +kernel, by decide +kernel⟩
set_option maxHeartbeats 400000 in
theorem lL_TJ_active : LkL 66 q_TJ_active 2 := ⟨⟨gwI 535 (by decide +kernel), gwI 536 (by decide +kernel), gwI 537 (by decide +kernel), gwI 80 (by decide +kernel), q_TJ_active_c⟩, rfl, by decide +kernel, by decide +kernel, by decide +kernel⟩
set_option maxHeartbeats 400000 in
theorem lL_Mo_active : LkL 69 q_Mo_active 2 := ⟨⟨gwI 1129 (by decide +kernel), gwI 1130 (by decide +kernel), gwI 1131 (by decide +kernel), gwI 89 (by decide +kernel), q_Mo_active_c⟩, rfl, by decide +kernel, by decide +kernel, by decide +kernel⟩
set_option maxHeartbeats 400000 in
theorem lL_TJ_pair : LkL 70 q_TJ_pair 2 := ⟨⟨gwI 539 (by decide +kernel), gwI 540 (by decide +kernel), gwI 541 (by decide +kernel), gwI 80 (by decide +kernel), q_TJ_pair_c⟩, rfl, by decide +kernel, by decide +kernel, by decide +kernel⟩
set_option maxHeartbeats 400000 in
theorem lL_Mo_pair : LkL 73 q_Mo_pair 2 := ⟨⟨gwI 1133 (by decide +kernel), gwI 1134 (by decide +kernel), gwI 1135 (by decide +kernel), gwI 89 (by decide +kernel), q_Mo_pair_c⟩, rfl, by decide +kernel, by decide +kernel, by decide +kernel⟩
set_option maxHeartbeats 400000 in
theorem lL_TJ_swept : LkL 74 q_TJ_swept 1 := ⟨⟨gwI 564 (by decide +kernel), gwI 565 (by decide +kernel), gwI 566 (by decide +kernel), gwI 80 (by decide +kernel), q_TJ_swept_c⟩, rfl, by decide +kernel, by decide +kernel, by decide +kernel⟩
set_option maxHeartbeats 400000 in
theorem lL_Mo_swept : LkL 77 q_Mo_swept 1 := ⟨⟨gwI 1155 (by decide +kernel), gwI 1156 (by decide +kernel), gwI 1157 (by decide +kernel), gwI 89 (by decide +kernel), q_Mo_swept_c⟩, rfl, by decide +kernel, by decide +kernel, by decide +kernel⟩
set_option maxHeartbeats 400000 in
theorem lL_TJ_piece : LkL 78 q_TJ_piece 4 := ⟨⟨gwI 643 (by decide +kernel), gwI 644 (by decide +kernel), gwI 645 (by decide +kernel), gwI 80 (by decide +kernel), q_TJ_piece_c⟩, rfl, by decide +kernel, by decide +kernel, by decide +kernel⟩
set_option maxHeartbeats 400000 in
theorem lL_Mo_piece : LkL 81 q_Mo_piece 4 := ⟨⟨gwI 1224 (by decide +kernel), gwI 1225 (by decide +kernel), gwI 1226 (by decide +kernel), gwI 89 (by decide +kernel), q_Mo_piece_c⟩, rfl, by decide +kernel, by decide +kernel, by decide +kernel⟩
set_option maxHeartbeats 400000 in
theorem lL_TJ_left : LkL 82 q_TJ_left 3 := ⟨⟨gwI 652 (by decide +kernel), gwI 653 (by decide +kernel), gwI 654 (by decide +kernel), gwI 80 (by decide +kernel), q_TJ_left_c⟩, rfl, by decide +kernel, by decide +kernel, by decide +kernel⟩
set_option maxHeartbeats 400000 in
theorem lL_Mo_left : LkL 85 q_Mo_left 3 := ⟨⟨gwI 1228 (by decide +kernel), gwI 1229 (by decide +kernel), gwI 1230 (by decide +kernel), gwI 89 (by decide +kernel), q_Mo_left_c⟩, rfl, by decide +kernel, by decide +kernel, by decide +kernel⟩
set_option maxHeartbeats 400000 in
theorem lL_TJ_kinds : LkL 86 q_TJ_kinds 1 := ⟨⟨gwI 692 (by decide +kernel), gwI 693 (by decide +kernel), gwI 694 (by decide +kernel), gwI 80 (by decide +kernel), q_TJ_kinds_c⟩, rfl, by decide +kernel, by decide +kernel, by decide +kernel⟩
set_option maxHeartbeats 400000 in
theorem lL_Mo_kinds : LkL 89 q_Mo_kinds 1 := ⟨⟨gwI 1159 (by decide +kernel), gwI 1160 (by decide +kernel), gwI 1161 (by decide +kernel), gwI 89 (by decide +kernel), q_Mo_kinds_c⟩, rfl, by decide +kernel, by decide +kernel, by decide +kernel⟩
set_option maxHeartbeats 400000 in
theorem lL_TJ_shared : LkL 90 q_TJ_shared 1 := ⟨⟨gwI 696 (by decide +kernel), gwI 697 (by decide +kernel), gwI 698 (by decide +kernel), gwI 80 (by decide +kernel), q_TJ_shared_c⟩, rfl, by decide +kernel, by decide +kernel, by decide +kernel⟩
set_option maxHeartbeats 400000 in
theorem lL_Mo_shared : LkL 94 q_Mo_shared 1 := ⟨⟨gwI 1163 (by decide +kernel), gwI 1164 (by decide +kernel), gwI 1165 (by decide +kernel), gwI 89 (by decide +kernel), q_Mo_shared_c⟩, rfl, by decide +kernel, by decide +kernel, by decide +kernel⟩
set_option maxHeartbeats 400000 in
theorem lL_TJ_weight : LkL 95 q_TJ_weight 2 := ⟨⟨gwI 706 (by decide +kernel), gwI 707 (by decide +kernel), gwI 708 (by decide +kernel), gwI 80 (by decide +kernel), q_TJ_weight_c⟩, rfl, by decide +kernel, by decide +kernel, by decide +kernel⟩
set_option maxHeartbeats 400000 in
theorem lL_Mo_weight : LkL 99 q_Mo_weight 2 := ⟨⟨gwI 1168 (by decide +kernel), gwI 1169 (by decide +kernel), gwI 1170 (by decide +kernel), gwI 89 (by decide +kernel), q_Mo_weight_c⟩, rfl, by decide +kernel, by decide +kernel, by decide +kernel⟩
set_option maxHeartbeats 400000 in
theorem lL_TJ_live : LkL 100 q_TJ_live 3 := ⟨⟨gwI 710 (by decide +kernel), gwI 711 (by decide +kernel), gwI 712 (by decide +kernel), gwI 80 (by decide +kernel), q_TJ_live_c⟩, rfl, by decide +kernel, by decide +kernel, by decide +kernel⟩
set_option maxHeartbeats 400000 in
theorem lL_Mo_live : LkL 103 q_Mo_live 3 := ⟨⟨gwI 1232 (by decide +kernel), gwI 1233 (by decide +kernel), gwI 1234 (by decide +kernel), gwI 89 (by decide +kernel), q_Mo_live_c⟩, rfl, by decide +kernel, by decide +kernel, by decide +kernel⟩
set_option maxHeartbeats 400000 in
theorem lL_TJ_crowd : LkL 104 q_TJ_crowd 2 := ⟨⟨gwI 726 (by decide +kernel), gwI 727 (by decide +kernel), gwI 728 (by decide +kernel), gwI 80 (by decide +kernel), q_TJ_crowd_c⟩, rfl, by decide +kernel, by decide +kernel, by decide +kernel⟩
set_option maxHeartbeats 400000 in
theorem lL_Mo_crowd : LkL 107 q_Mo_crowd 2 := ⟨⟨gwI 1244 (by decide +kernel), gwI 1245 (by decide +kernel), gwI 1246 (by decide +kernel), gwI 89 (by decide +kernel), q_Mo_crowd_c⟩, rfl, by decide +kernel, by decide +kernel, by decide +kernel⟩
set_option maxHeartbeats 400000 in
theorem lL_TJ_one : LkL 108 q_TJ_one 3 := ⟨⟨gwI 734 (by decide +kernel), gwI 735 (by decide +kernel), gwI 736 (by decide +kernel), gwI 80 (by decide +kernel), q_TJ_one_c⟩, rfl, by decide +kernel, by decide +kernel, by decide +kernel⟩
set_option maxHeartbeats 400000 in
theorem lL_Mo_one : LkL 111 q_Mo_one 3 := ⟨⟨gwI 1248 (by decide +kernel), gwI 1249 (by decide +kernel), gwI 1250 (by decide +kernel), gwI 89 (by decide +kernel), q_Mo_one_c⟩, rfl, by decide +kernel, by decide +kernel, by decide +kernel⟩
set_option maxHeartbeats 400000 in
theorem lL_TJ_steps : LkL 112 q_TJ_steps 3 := ⟨⟨gwI 775 (by decide +kernel), gwI 776 (by decide +kernel), gwI 777 (by decide +kernel), gwI 80 (by decide +kernel), q_TJ_steps_c⟩, rfl, by decide +kernel, by decide +kernel, by decide +kernel⟩
set_option maxHeartbeats 400000 in
theorem lL_Mo_steps : LkL 115 q_Mo_steps 3 := ⟨⟨gwI 1276 (by decide +kernel), gwI 1277 (by decide +kernel), gwI 1278 (by decide +kernel), gwI 89 (by decide +kernel), q_Mo_steps_c⟩, rfl, by decide +kernel, by decide +kernel, by decide +kernel⟩
set_option maxHeartbeats 400000 in
theorem lL_TJ_split : LkL 116 q_TJ_split 4 := ⟨⟨gwI 660 (by decide +kernel), gwI 661 (by decide +kernel), gwI 662 (by decide +kernel), gwI 80 (by decide +kernel), q_TJ_split_c⟩, rfl, by decide +kernel, by decide +kernel, by decide +kernel⟩
set_option maxHeartbeats 400000 in
theorem lL_Mo_split : LkL 119 q_Mo_split 4 := ⟨⟨gwI 1288 (by decide +kernel), gwI 1289 (by decide +kernel), gwI 1290 (by decide +kernel), gwI 89 (by decide +kernel), q_Mo_split_c⟩, rfl, by decide +kernel, by decide +kernel, by decide +kernel⟩
set_option maxHeartbeats 400000 in
theorem lL_TJ_latest : LkL 120 q_TJ_latest 2 := ⟨⟨gwI 676 (by decide +kernel), gwI 677 (by decide +kernel), gwI 678 (by decide +kernel), gwI 80 (by decide +kernel), q_TJ_latest_c⟩, rfl, by decide +kernel, by decide +kernel, by decide +kernel⟩
set_option maxHeartbeats 400000 in
theorem lL_Mo_latest : LkL 123 q_Mo_latest 2 := ⟨⟨gwI 1292 (by decide +kernel), gwI 1293 (by decide +kernel), gwI 1294 (by decide +kernel), gwI 89 (by decide +kernel), q_Mo_latest_c⟩, rfl, by decide +kernel, by decide +kernel, by decide +kernel⟩
set_option maxHeartbeats 400000 in
theorem lL_TJ_matched : LkL 124 q_TJ_matched 2 := ⟨⟨gwI 682 (by decide +kernel), gwI 683 (by decide +kernel), gwI 684 (by decide +kernel), gwI 80 (by decide +kernel), q_TJ_matched_c⟩, rfl, by decide +kernel, by decide +kernel, by decide +kernel⟩
set_option maxHeartbeats 400000 in
theorem lL_Mo_matched : LkL 128 q_Mo_matched 2 := ⟨⟨gwI 1296 (by decide +kernel), gwI 1297 (by decide +kernel), gwI 1298 (by decide +kernel), gwI 89 (by decide +kernel), q_Mo_matched_c⟩, rfl, by decide +kernel, by decide +kernel, by decide +kernel⟩
set_option maxHeartbeats 400000 in
theorem lL_TJ_lane : LkL 129 q_TJ_lane 2 := ⟨⟨gwI 788 (by decide +kernel), gwI 789 (by decide +kernel), gwI 790 (by decide +kernel), gwI 80 (by decide +kernel), q_TJ_lane_c⟩, rfl, by decide +kernel, by decide +kernel, by decide +kernel⟩
set_option maxHeartbeats 400000 in
theorem lL_Mo_lane : LkL 132 q_Mo_lane 2 := ⟨⟨gwI 1300 (by decide +kernel), gwI 1301 (by decide +kernel), gwI 1302 (by decide +kernel), gwI 89 (by decide +kernel), q_Mo_lane_c⟩, rfl, by decide +kernel, by decide +kernel, by decide +kernel⟩
set_option maxHeartbeats 400000 in
theorem lL_TJ_chain : LkL 133 q_TJ_chain 3 := ⟨⟨gwI 800 (by decide +kernel), gwI 801 (by decide +kernel), gwI 802 (by decide +kernel), gwI 80 (by decide +kernel), q_TJ_chain_c⟩, rfl, by decide +kernel, by decide +kernel, by decide +kernel⟩
set_option maxHeartbeats 400000 in
theorem lL_Mo_chain : LkL 136 q_Mo_chain 3 := ⟨⟨gwI 1316 (by decide +kernel), gwI 1317 (by decide +kernel), gwI 1318 (by decide +kernel), gwI 89 (by decide +kernel), q_Mo_chain_c⟩, rfl, by decide +kernel, by decide +kernel, by decide +kernel⟩
set_option maxHeartbeats 400000 in
theorem lL_TJ_converse : LkL 137 q_TJ_converse 1 := ⟨⟨gwI 805 (by decide +kernel), gwI 806 (by decide +kernel), gwI 807 (by decide +kernel), gwI 80 (by decide +kernel), q_TJ_converse_c⟩, rfl, by decide +kernel, by decide +kernel, by decide +kernel⟩
set_option maxHeartbeats 400000 in
theorem lL_Mo_converse : LkL 140 q_Mo_converse 1 := ⟨⟨gwI 1320 (by decide +kernel), gwI 1321 (by decide +kernel), gwI 1322 (by decide +kernel), gwI 89 (by decide +kernel), q_Mo_converse_c⟩, rfl, by decide +kernel, by decide +kernel, by decide +kernel⟩
set_option maxHeartbeats 400000 in
theorem lL_TJ_compose : LkL 141 q_TJ_compose 2 := ⟨⟨gwI 816 (by decide +kernel), gwI 817 (by decide +kernel), gwI 818 (by decide +kernel), gwI 80 (by decide +kernel), q_TJ_compose_c⟩, rfl, by decide +kernel, by decide +kernel, by decide +kernel⟩
set_option maxHeartbeats 400000 in
theorem lL_Mo_compose : LkL 144 q_Mo_compose 2 := ⟨⟨gwI 1330 (by decide +kernel), gwI 1331 (by decide +kernel), gwI 1332 (by decide +kernel), gwI 89 (by decide +kernel), q_Mo_compose_c⟩, rfl, by decide +kernel, by decide +kernel, by decide +kernel⟩
set_option maxHeartbeats 400000 in
theorem lL_TJ_net : LkL 145 q_TJ_net 3 := ⟨⟨gwI 828 (by decide +kernel), gwI 829 (by decide +kernel), gwI 830 (by decide +kernel), gwI 80 (by decide +kernel), q_TJ_net_c⟩, rfl, by decide +kernel, by decide +kernel, by decide +kernel⟩
set_option maxHeartbeats 400000 in
theorem lL_Mo_net : LkL 149 q_Mo_net 3 := ⟨⟨gwI 1346 (by decide +kernel), gwI 1347 (by decide +kernel), gwI 1348 (by decide +kernel), gwI 89 (by decide +kernel), q_Mo_net_c⟩, rfl, by decide +kernel, by decide +kernel, by decide +kernel⟩
set_option maxHeartbeats 400000 in
theorem lL_TJ_between : LkL 150 q_TJ_between 3 := ⟨⟨gwI 841 (by decide +kernel), gwI 842 (by decide +kernel), gwI 843 (by decide +kernel), gwI 80 (by decide +kernel), q_TJ_between_c⟩, rfl, by decide +kernel, by decide +kernel, by decide +kernel⟩
set_option maxHeartbeats 400000 in
theorem lL_Mo_between : LkL 154 q_Mo_between 3 := ⟨⟨gwI 1357 (by decide +kernel), gwI 1358 (by decide +kernel), gwI 1359 (by decide +kernel), gwI 89 (by decide +kernel), q_Mo_between_c⟩, rfl, by decide +kernel, by decide +kernel, by decide +kernel⟩
set_option maxHeartbeats 400000 in
theorem lL_TJ_sound : LkL 155 q_TJ_sound 0 := ⟨⟨gwI 857 (by decide +kernel), gwI 858 (by decide +kernel), gwI 859 (by decide +kernel), gwI 80 (by decide +kernel), q_TJ_sound_c⟩, rfl, by decide +kernel, by decide +kernel, by decide +kernel⟩
set_option maxHeartbeats 400000 in
theorem lL_Mo_sound : LkL 158 q_Mo_sound 0 := ⟨⟨gwI 1369 (by decide +kernel), gwI 1370 (by decide +kernel), gwI 1371 (by decide +kernel), gwI 89 (by decide +kernel), q_Mo_sound_c⟩, rfl, by decide +kernel, by decide +kernel, by decide +kernel⟩
set_option maxHeartbeats 400000 in
theorem lL_TJ_lay : LkL 159 q_TJ_lay 2 := ⟨⟨gwI 865 (by decide +kernel), gwI 866 (by decide +kernel), gwI 867 (by decide +kernel), gwI 80 (by decide +kernel), q_TJ_lay_c⟩, rfl, by decide +kernel, by decide +kernel, by decide +kernel⟩
set_option maxHeartbeats 400000 in
theorem lL_Mo_lay : LkL 162 q_Mo_lay 2 := ⟨⟨gwI 1373 (by decide +kernel), gwI 1374 (by decide +kernel), gwI 1375 (by decide +kernel), gwI 89 (by decide +kernel), q_Mo_lay_c⟩, rfl, by decide +kernel, by decide +kernel, by decide +kernel⟩
set_option maxHeartbeats 400000 in
theorem lL_TJ_image : LkL 163 q_TJ_image 1 := ⟨⟨gwI 870 (by decide +kernel), gwI 871 (by decide +kernel), gwI 872 (by decide +kernel), gwI 80 (by decide +kernel), q_TJ_image_c⟩, rfl, by decide +kernel, by decide +kernel, by decide +kernel⟩
set_option maxHeartbeats 400000 in
theorem lL_Mo_image : LkL 167 q_Mo_image 1 := ⟨⟨gwI 1377 (by decide +kernel), gwI 1378 (by decide +kernel), gwI 1379 (by decide +kernel), gwI 89 (by decide +kernel), q_Mo_image_c⟩, rfl, by decide +kernel, by decide +kernel, by decide +kernel⟩
set_option maxHeartbeats 400000 in
theorem lL_TJ_look : LkL 168 q_TJ_look 1 := ⟨⟨gwI 897 (by decide +kernel), gwI 898 (by decide +kernel), gwI 899 (by decide +kernel), gwI 80 (by decide +kernel), q_TJ_look_c⟩, rfl, by decide +kernel, by decide +kernel, by decide +kernel⟩
set_option maxHeartbeats 400000 in
theorem lL_Mo_look : LkL 171 q_Mo_look 1 := ⟨⟨gwI 1381 (by decide +kernel), gwI 1382 (by decide +kernel), gwI 1383 (by decide +kernel), gwI 89 (by decide +kernel), q_Mo_look_c⟩, rfl, by decide +kernel, by decide +kernel, by decide +kernel⟩

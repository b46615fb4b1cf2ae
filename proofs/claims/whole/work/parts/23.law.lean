set_option maxRecDepth 100000 in
theorem ml_L_79 : Cond.methodLink RL 79 yX9_way ∈ tb := tb_at 1176 (by decide +kernel) rfl
set_option maxRecDepth 100000 in
theorem mf_X9_way : MF yX9_way cX9_way 6 (some .int) 4 := ⟨tb_at 1179 (by decide +kernel) rfl, tb_at 113 (by decide +kernel) rfl, by decide +kernel, by decide +kernel, by decide +kernel⟩
set_option maxRecDepth 100000 in
theorem mv_X9_way : Cond.instanceMethod yX9_way ∈ tb ∧ Cond.selects (Cn 9) yX9_way yX9_way ∈ tb ∧ 9 < 10 := ⟨tb_at 1177 (by decide +kernel) rfl, tb_at 1178 (by decide +kernel) rfl, by decide⟩
set_option maxRecDepth 100000 in
theorem ml_L_75 : Cond.methodLink RL 75 yX8_way ∈ tb := tb_at 937 (by decide +kernel) rfl
set_option maxRecDepth 100000 in
theorem mf_X8_way : MF yX8_way cX8_way 6 (some .int) 4 := ⟨tb_at 940 (by decide +kernel) rfl, tb_at 105 (by decide +kernel) rfl, by decide +kernel, by decide +kernel, by decide +kernel⟩
set_option maxRecDepth 100000 in
theorem mv_X8_way : Cond.instanceMethod yX8_way ∈ tb ∧ Cond.selects (Cn 8) yX8_way yX8_way ∈ tb ∧ 8 < 10 := ⟨tb_at 938 (by decide +kernel) rfl, tb_at 939 (by decide +kernel) rfl, by decide⟩
set_option maxRecDepth 100000 in
theorem ml_L_21 : Cond.methodLink RL 21 yX8_plug ∈ tb := tb_at 364 (by decide +kernel) rfl
set_option maxRecDepth 100000 in
theorem mf_X8_plug : MF yX8_plug cX8_plug 6 (some .boolean) 4 := ⟨tb_at 367 (by decide +kernel) rfl, tb_at 105 (by decide +kernel) rfl, by decide +kernel, by decide +kernel, by decide +kernel⟩
set_option maxRecDepth 100000 in
theorem mv_X8_plug : Cond.instanceMethod yX8_plug ∈ tb ∧ Cond.selects (Cn 8) yX8_plug yX8_plug ∈ tb ∧ 8 < 10 := ⟨tb_at 365 (by decide +kernel) rfl, tb_at 366 (by decide +kernel) rfl, by decide⟩
set_option maxRecDepth 100000 in
theorem ml_L_25 : Cond.methodLink RL 25 yX9_plug ∈ tb := tb_at 1132 (by decide +kernel) rfl
set_option maxRecDepth 100000 in
theorem mf_X9_plug : MF yX9_plug cX9_plug 5 (some .boolean) 4 := ⟨tb_at 1135 (by decide +kernel) rfl, tb_at 113 (by decide +kernel) rfl, by decide +kernel, by decide +kernel, by decide +kernel⟩
set_option maxRecDepth 100000 in
theorem mv_X9_plug : Cond.instanceMethod yX9_plug ∈ tb ∧ Cond.selects (Cn 9) yX9_plug yX9_plug ∈ tb ∧ 9 < 10 := ⟨tb_at 1133 (by decide +kernel) rfl, tb_at 1134 (by decide +kernel) rfl, by decide⟩
set_option maxRecDepth 100000 in
theorem ml_L_26 : Cond.methodLink RL 26 yX8_host ∈ tb := tb_at 485 (by decide +kernel) rfl
set_option maxRecDepth 100000 in
theorem mf_X8_host : MF yX8_host cX8_host 3 (some .boolean) 2 := ⟨tb_at 488 (by decide +kernel) rfl, tb_at 105 (by decide +kernel) rfl, by decide +kernel, by decide +kernel, by decide +kernel⟩
set_option maxRecDepth 100000 in
theorem mv_X8_host : Cond.instanceMethod yX8_host ∈ tb ∧ Cond.selects (Cn 8) yX8_host yX8_host ∈ tb ∧ 8 < 10 := ⟨tb_at 486 (by decide +kernel) rfl, tb_at 487 (by decide +kernel) rfl, by decide⟩
set_option maxRecDepth 100000 in
theorem ml_L_30 : Cond.methodLink RL 30 yX9_host ∈ tb := tb_at 1150 (by decide +kernel) rfl
set_option maxRecDepth 100000 in
theorem mf_X9_host : MF yX9_host cX9_host 3 (some .boolean) 2 := ⟨tb_at 1153 (by decide +kernel) rfl, tb_at 113 (by decide +kernel) rfl, by decide +kernel, by decide +kernel, by decide +kernel⟩
set_option maxRecDepth 100000 in
theorem mv_X9_host : Cond.instanceMethod yX9_host ∈ tb ∧ Cond.selects (Cn 9) yX9_host yX9_host ∈ tb ∧ 9 < 10 := ⟨tb_at 1151 (by decide +kernel) rfl, tb_at 1152 (by decide +kernel) rfl, by decide⟩
set_option maxRecDepth 100000 in
theorem ml_L_31 : Cond.methodLink RL 31 yX8_meet ∈ tb := tb_at 513 (by decide +kernel) rfl
set_option maxRecDepth 100000 in
theorem mf_X8_meet : MF yX8_meet cX8_meet 3 (some .boolean) 2 := ⟨tb_at 516 (by decide +kernel) rfl, tb_at 105 (by decide +kernel) rfl, by decide +kernel, by decide +kernel, by decide +kernel⟩
set_option maxRecDepth 100000 in
theorem mv_X8_meet : Cond.instanceMethod yX8_meet ∈ tb ∧ Cond.selects (Cn 8) yX8_meet yX8_meet ∈ tb ∧ 8 < 10 := ⟨tb_at 514 (by decide +kernel) rfl, tb_at 515 (by decide +kernel) rfl, by decide⟩
set_option maxRecDepth 100000 in
theorem ml_L_34 : Cond.methodLink RL 34 yX9_meet ∈ tb := tb_at 1157 (by decide +kernel) rfl
set_option maxRecDepth 100000 in
theorem mf_X9_meet : MF yX9_meet cX9_meet 3 (some .boolean) 2 := ⟨tb_at 1160 (by decide +kernel) rfl, tb_at 113 (by decide +kernel) rfl, by decide +kernel, by decide +kernel, by decide +kernel⟩
set_option maxRecDepth 100000 in
theorem mv_X9_meet : Cond.instanceMethod yX9_meet ∈ tb ∧ Cond.selects (Cn 9) yX9_meet yX9_meet ∈ tb ∧ 9 < 10 := ⟨tb_at 1158 (by decide +kernel) rfl, tb_at 1159 (by decide +kernel) rfl, by decide⟩
set_option maxRecDepth 100000 in
theorem ml_L_35 : Cond.methodLink RL 35 yX8_cut ∈ tb := tb_at 517 (by decide +kernel) rfl
set_option maxRecDepth 100000 in
theorem mf_X8_cut : MF yX8_cut cX8_cut 4 (some .boolean) 1 := ⟨tb_at 520 (by decide +kernel) rfl, tb_at 105 (by decide +kernel) rfl, by decide +kernel, by decide +kernel, by decide +kernel⟩
set_option maxRecDepth 100000 in
theorem mv_X8_cut : Cond.instanceMethod yX8_cut ∈ tb ∧ Cond.selects (Cn 8) yX8_cut yX8_cut ∈ tb ∧ 8 < 10 := ⟨tb_at 518 (by decide +kernel) rfl, tb_at 519 (by decide +kernel) rfl, by decide⟩
set_option maxRecDepth 100000 in
theorem ml_L_39 : Cond.methodLink RL 39 yX9_cut ∈ tb := tb_at 1164 (by decide +kernel) rfl
set_option maxRecDepth 100000 in
theorem mf_X9_cut : MF yX9_cut cX9_cut 4 (some .boolean) 1 := ⟨tb_at 1167 (by decide +kernel) rfl, tb_at 113 (by decide +kernel) rfl, by decide +kernel, by decide +kernel, by decide +kernel⟩
set_option maxRecDepth 100000 in
theorem mv_X9_cut : Cond.instanceMethod yX9_cut ∈ tb ∧ Cond.selects (Cn 9) yX9_cut yX9_cut ∈ tb ∧ 9 < 10 := ⟨tb_at 1165 (by decide +kernel) rfl, tb_at 1166 (by decide +kernel) rfl, by decide⟩
set_option maxRecDepth 100000 in
theorem ml_L_40 : Cond.methodLink RL 40 yX8_mend ∈ tb := tb_at 539 (by decide +kernel) rfl
set_option maxRecDepth 100000 in
theorem mf_X8_mend : MF yX8_mend cX8_mend 2 (some .boolean) 1 := ⟨tb_at 542 (by decide +kernel) rfl, tb_at 105 (by decide +kernel) rfl, by decide +kernel, by decide +kernel, by decide +kernel⟩
set_option maxRecDepth 100000 in
theorem mv_X8_mend : Cond.instanceMethod yX8_mend ∈ tb ∧ Cond.selects (Cn 8) yX8_mend yX8_mend ∈ tb ∧ 8 < 10 := ⟨tb_at 540 (by decide +kernel) rfl, tb_at 541 (by decide +kernel) rfl, by decide⟩
set_option maxRecDepth 100000 in
theorem ml_L_43 : Cond.methodLink RL 43 yX9_mend ∈ tb := tb_at 1172 (by decide +kernel) rfl
set_option maxRecDepth 100000 in
theorem mf_X9_mend : MF yX9_mend cX9_mend 2 (some .boolean) 1 := ⟨tb_at 1175 (by decide +kernel) rfl, tb_at 113 (by decide +kernel) rfl, by decide +kernel, by decide +kernel, by decide +kernel⟩
set_option maxRecDepth 100000 in
theorem mv_X9_mend : Cond.instanceMethod yX9_mend ∈ tb ∧ Cond.selects (Cn 9) yX9_mend yX9_mend ∈ tb ∧ 9 < 10 := ⟨tb_at 1173 (by decide +kernel) rfl, tb_at 1174 (by decide +kernel) rfl, by decide⟩
set_option maxRecDepth 100000 in
theorem ml_L_44 : Cond.methodLink RL 44 yX8_join ∈ tb := tb_at 543 (by decide +kernel) rfl
set_option maxRecDepth 100000 in
theorem mf_X8_join : MF yX8_join cX8_join 3 (some .boolean) 2 := ⟨tb_at 546 (by decide +kernel) rfl, tb_at 105 (by decide +kernel) rfl, by decide +kernel, by decide +kernel, by decide +kernel⟩
set_option maxRecDepth 100000 in
theorem mv_X8_join : Cond.instanceMethod yX8_join ∈ tb ∧ Cond.selects (Cn 8) yX8_join yX8_join ∈ tb ∧ 8 < 10 := ⟨tb_at 544 (by decide +kernel) rfl, tb_at 545 (by decide +kernel) rfl, by decide⟩
set_option maxRecDepth 100000 in
theorem ml_L_47 : Cond.methodLink RL 47 yX9_join ∈ tb := tb_at 1213 (by decide +kernel) rfl
set_option maxRecDepth 100000 in
theorem mf_X9_join : MF yX9_join cX9_join 3 (some .boolean) 2 := ⟨tb_at 1216 (by decide +kernel) rfl, tb_at 113 (by decide +kernel) rfl, by decide +kernel, by decide +kernel, by decide +kernel⟩
set_option maxRecDepth 100000 in
theorem mv_X9_join : Cond.instanceMethod yX9_join ∈ tb ∧ Cond.selects (Cn 9) yX9_join yX9_join ∈ tb ∧ 9 < 10 := ⟨tb_at 1214 (by decide +kernel) rfl, tb_at 1215 (by decide +kernel) rfl, by decide⟩
set_option maxRecDepth 100000 in
theorem ml_L_48 : Cond.methodLink RL 48 yX8_leave ∈ tb := tb_at 566 (by decide +kernel) rfl
set_option maxRecDepth 100000 in
theorem mf_X8_leave : MF yX8_leave cX8_leave 3 (some .boolean) 2 := ⟨tb_at 569 (by decide +kernel) rfl, tb_at 105 (by decide +kernel) rfl, by decide +kernel, by decide +kernel, by decide +kernel⟩
set_option maxRecDepth 100000 in
theorem mv_X8_leave : Cond.instanceMethod yX8_leave ∈ tb ∧ Cond.selects (Cn 8) yX8_leave yX8_leave ∈ tb ∧ 8 < 10 := ⟨tb_at 567 (by decide +kernel) rfl, tb_at 568 (by decide +kernel) rfl, by decide⟩
set_option maxRecDepth 100000 in
theorem ml_L_51 : Cond.methodLink RL 51 yX9_leave ∈ tb := tb_at 1225 (by decide +kernel) rfl
set_option maxRecDepth 100000 in
theorem mf_X9_leave : MF yX9_leave cX9_leave 3 (some .boolean) 2 := ⟨tb_at 1228 (by decide +kernel) rfl, tb_at 113 (by decide +kernel) rfl, by decide +kernel, by decide +kernel, by decide +kernel⟩
set_option maxRecDepth 100000 in
theorem mv_X9_leave : Cond.instanceMethod yX9_leave ∈ tb ∧ Cond.selects (Cn 9) yX9_leave yX9_leave ∈ tb ∧ 9 < 10 := ⟨tb_at 1226 (by decide +kernel) rfl, tb_at 1227 (by decide +kernel) rfl, by decide⟩
set_option maxRecDepth 100000 in
theorem ml_L_52 : Cond.methodLink RL 52 yX8_send ∈ tb := tb_at 570 (by decide +kernel) rfl
set_option maxRecDepth 100000 in
theorem mf_X8_send : MF yX8_send cX8_send 3 (some .int) 2 := ⟨tb_at 573 (by decide +kernel) rfl, tb_at 105 (by decide +kernel) rfl, by decide +kernel, by decide +kernel, by decide +kernel⟩
set_option maxRecDepth 100000 in
theorem mv_X8_send : Cond.instanceMethod yX8_send ∈ tb ∧ Cond.selects (Cn 8) yX8_send yX8_send ∈ tb ∧ 8 < 10 := ⟨tb_at 571 (by decide +kernel) rfl, tb_at 572 (by decide +kernel) rfl, by decide⟩
set_option maxRecDepth 100000 in
theorem ml_L_56 : Cond.methodLink RL 56 yX9_send ∈ tb := tb_at 1229 (by decide +kernel) rfl
set_option maxRecDepth 100000 in
theorem mf_X9_send : MF yX9_send cX9_send 3 (some .int) 2 := ⟨tb_at 1232 (by decide +kernel) rfl, tb_at 113 (by decide +kernel) rfl, by decide +kernel, by decide +kernel, by decide +kernel⟩
set_option maxRecDepth 100000 in
theorem mv_X9_send : Cond.instanceMethod yX9_send ∈ tb ∧ Cond.selects (Cn 9) yX9_send yX9_send ∈ tb ∧ 9 < 10 := ⟨tb_at 1230 (by decide +kernel) rfl, tb_at 1231 (by decide +kernel) rfl, by decide⟩
set_option maxRecDepth 100000 in
theorem ml_L_57 : Cond.methodLink RL 57 yX8_lose ∈ tb := tb_at 582 (by decide +kernel) rfl
set_option maxRecDepth 100000 in
theorem mf_X8_lose : MF yX8_lose cX8_lose 3 (some .boolean) 2 := ⟨tb_at 585 (by decide +kernel) rfl, tb_at 105 (by decide +kernel) rfl, by decide +kernel, by decide +kernel, by decide +kernel⟩
set_option maxRecDepth 100000 in
theorem mv_X8_lose : Cond.instanceMethod yX8_lose ∈ tb ∧ Cond.selects (Cn 8) yX8_lose yX8_lose ∈ tb ∧ 8 < 10 := ⟨tb_at 583 (by decide +kernel) rfl, tb_at 584 (by decide +kernel) rfl, by decide⟩
set_option maxRecDepth 100000 in
theorem ml_L_60 : Cond.methodLink RL 60 yX9_lose ∈ tb := tb_at 1205 (by decide +kernel) rfl
set_option maxRecDepth 100000 in
theorem mf_X9_lose : MF yX9_lose cX9_lose 4 (some .boolean) 2 := ⟨tb_at 1208 (by decide +kernel) rfl, tb_at 113 (by decide +kernel) rfl, by decide +kernel, by decide +kernel, by decide +kernel⟩
set_option maxRecDepth 100000 in
theorem mv_X9_lose : Cond.instanceMethod yX9_lose ∈ tb ∧ Cond.selects (Cn 9) yX9_lose yX9_lose ∈ tb ∧ 9 < 10 := ⟨tb_at 1206 (by decide +kernel) rfl, tb_at 1207 (by decide +kernel) rfl, by decide⟩
set_option maxRecDepth 100000 in
theorem ml_L_61 : Cond.methodLink RL 61 yX8_tick ∈ tb := tb_at 591 (by decide +kernel) rfl
set_option maxRecDepth 100000 in
theorem mf_X8_tick : MF yX8_tick cX8_tick 4 (some .int) 1 := ⟨tb_at 594 (by decide +kernel) rfl, tb_at 105 (by decide +kernel) rfl, by decide +kernel, by decide +kernel, by decide +kernel⟩
set_option maxRecDepth 100000 in
theorem mv_X8_tick : Cond.instanceMethod yX8_tick ∈ tb ∧ Cond.selects (Cn 8) yX8_tick yX8_tick ∈ tb ∧ 8 < 10 := ⟨tb_at 592 (by decide +kernel) rfl, tb_at 593 (by decide +kernel) rfl, by decide⟩
set_option maxRecDepth 100000 in
theorem ml_L_65 : Cond.methodLink RL 65 yX9_tick ∈ tb := tb_at 1237 (by decide +kernel) rfl
set_option maxRecDepth 100000 in
theorem mf_X9_tick : MF yX9_tick cX9_tick 3 (some .int) 1 := ⟨tb_at 1240 (by decide +kernel) rfl, tb_at 113 (by decide +kernel) rfl, by decide +kernel, by decide +kernel, by decide +kernel⟩
set_option maxRecDepth 100000 in
theorem mv_X9_tick : Cond.instanceMethod yX9_tick ∈ tb ∧ Cond.selects (Cn 9) yX9_tick yX9_tick ∈ tb ∧ 9 < 10 := ⟨tb_at 1238 (by decide +kernel) rfl, tb_at 1239 (by decide +kernel) rfl, by decide⟩
set_option maxRecDepth 100000 in
theorem ml_L_66 : Cond.methodLink RL 66 yX8_got ∈ tb := tb_at 925 (by decide +kernel) rfl
set_option maxRecDepth 100000 in
theorem mf_X8_got : MF yX8_got cX8_got 3 (some .int) 2 := ⟨tb_at 928 (by decide +kernel) rfl, tb_at 105 (by decide +kernel) rfl, by decide +kernel, by decide +kernel, by decide +kernel⟩
set_option maxRecDepth 100000 in
theorem mv_X8_got : Cond.instanceMethod yX8_got ∈ tb ∧ Cond.selects (Cn 8) yX8_got yX8_got ∈ tb ∧ 8 < 10 := ⟨tb_at 926 (by decide +kernel) rfl, tb_at 927 (by decide +kernel) rfl, by decide⟩
set_option maxRecDepth 100000 in
theorem ml_L_69 : Cond.methodLink RL 69 yX9_got ∈ tb := tb_at 1233 (by decide +kernel) rfl
set_option maxRecDepth 100000 in
theorem mf_X9_got : MF yX9_got cX9_got 3 (some .int) 2 := ⟨tb_at 1236 (by decide +kernel) rfl, tb_at 113 (by decide +kernel) rfl, by decide +kernel, by decide +kernel, by decide +kernel⟩
set_option maxRecDepth 100000 in
theorem mv_X9_got : Cond.instanceMethod yX9_got ∈ tb ∧ Cond.selects (Cn 9) yX9_got yX9_got ∈ tb ∧ 9 < 10 := ⟨tb_at 1234 (by decide +kernel) rfl, tb_at 1235 (by decide +kernel) rfl, by decide⟩
set_option maxRecDepth 100000 in
theorem ml_L_70 : Cond.methodLink RL 70 yX8_frame ∈ tb := tb_at 929 (by decide +kernel) rfl
set_option maxRecDepth 100000 in
theorem mf_X8_frame : MF yX8_frame cX8_frame 5 (some .int) 3 := ⟨tb_at 932 (by decide +kernel) rfl, tb_at 105 (by decide +kernel) rfl, by decide +kernel, by decide +kernel, by decide +kernel⟩
set_option maxRecDepth 100000 in
theorem mv_X8_frame : Cond.instanceMethod yX8_frame ∈ tb ∧ Cond.selects (Cn 8) yX8_frame yX8_frame ∈ tb ∧ 8 < 10 := ⟨tb_at 930 (by decide +kernel) rfl, tb_at 931 (by decide +kernel) rfl, by decide⟩
set_option maxRecDepth 100000 in
theorem ml_L_74 : Cond.methodLink RL 74 yX9_frame ∈ tb := tb_at 1209 (by decide +kernel) rfl
set_option maxRecDepth 100000 in
theorem mf_X9_frame : MF yX9_frame cX9_frame 4 (some .int) 3 := ⟨tb_at 1212 (by decide +kernel) rfl, tb_at 113 (by decide +kernel) rfl, by decide +kernel, by decide +kernel, by decide +kernel⟩
set_option maxRecDepth 100000 in
theorem mv_X9_frame : Cond.instanceMethod yX9_frame ∈ tb ∧ Cond.selects (Cn 9) yX9_frame yX9_frame ∈ tb ∧ 9 < 10 := ⟨tb_at 1210 (by decide +kernel) rfl, tb_at 1211 (by decide +kernel) rfl, by decide⟩
set_option maxRecDepth 100000 in
theorem ml_L_80 : Cond.methodLink RL 80 yX8_port ∈ tb := tb_at 944 (by decide +kernel) rfl
set_option maxRecDepth 100000 in
theorem mf_X8_port : MF yX8_port cX8_port 5 (some .int) 3 := ⟨tb_at 947 (by decide +kernel) rfl, tb_at 105 (by decide +kernel) rfl, by decide +kernel, by decide +kernel, by decide +kernel⟩
set_option maxRecDepth 100000 in
theorem mv_X8_port : Cond.instanceMethod yX8_port ∈ tb ∧ Cond.selects (Cn 8) yX8_port yX8_port ∈ tb ∧ 8 < 10 := ⟨tb_at 945 (by decide +kernel) rfl, tb_at 946 (by decide +kernel) rfl, by decide⟩
set_option maxRecDepth 100000 in
theorem ml_L_83 : Cond.methodLink RL 83 yX9_port ∈ tb := tb_at 1460 (by decide +kernel) rfl
set_option maxRecDepth 100000 in
theorem mf_X9_port : MF yX9_port cX9_port 4 (some .int) 3 := ⟨tb_at 1463 (by decide +kernel) rfl, tb_at 113 (by decide +kernel) rfl, by decide +kernel, by decide +kernel, by decide +kernel⟩
set_option maxRecDepth 100000 in
theorem mv_X9_port : Cond.instanceMethod yX9_port ∈ tb ∧ Cond.selects (Cn 9) yX9_port yX9_port ∈ tb ∧ 9 < 10 := ⟨tb_at 1461 (by decide +kernel) rfl, tb_at 1462 (by decide +kernel) rfl, by decide⟩
set_option maxRecDepth 100000 in
theorem ml_L_84 : Cond.methodLink RL 84 yX8_members ∈ tb := tb_at 950 (by decide +kernel) rfl
set_option maxRecDepth 100000 in
theorem mf_X8_members : MF yX8_members cX8_members 5 (some .int) 3 := ⟨tb_at 953 (by decide +kernel) rfl, tb_at 105 (by decide +kernel) rfl, by decide +kernel, by decide +kernel, by decide +kernel⟩
set_option maxRecDepth 100000 in
theorem mv_X8_members : Cond.instanceMethod yX8_members ∈ tb ∧ Cond.selects (Cn 8) yX8_members yX8_members ∈ tb ∧ 8 < 10 := ⟨tb_at 951 (by decide +kernel) rfl, tb_at 952 (by decide +kernel) rfl, by decide⟩
set_option maxRecDepth 100000 in
theorem ml_L_87 : Cond.methodLink RL 87 yX9_members ∈ tb := tb_at 1464 (by decide +kernel) rfl
set_option maxRecDepth 100000 in
theorem mf_X9_members : MF yX9_members cX9_members 4 (some .int) 3 := ⟨tb_at 1467 (by decide +kernel) rfl, tb_at 113 (by decide +kernel) rfl, by decide +kernel, by decide +kernel, by decide +kernel⟩
set_option maxRecDepth 100000 in
theorem mv_X9_members : Cond.instanceMethod yX9_members ∈ tb ∧ Cond.selects (Cn 9) yX9_members yX9_members ∈ tb ∧ 9 < 10 := ⟨tb_at 1465 (by decide +kernel) rfl, tb_at 1466 (by decide +kernel) rfl, by decide⟩
set_option maxRecDepth 100000 in
theorem ml_L_88 : Cond.methodLink RL 88 yX8_branch ∈ tb := tb_at 955 (by decide +kernel) rfl
set_option maxRecDepth 100000 in
theorem mf_X8_branch : MF yX8_branch cX8_branch 7 (some .int) 5 := ⟨tb_at 958 (by decide +kernel) rfl, tb_at 105 (by decide +kernel) rfl, by decide +kernel, by decide +kernel, by decide +kernel⟩
set_option maxRecDepth 100000 in
theorem mv_X8_branch : Cond.instanceMethod yX8_branch ∈ tb ∧ Cond.selects (Cn 8) yX8_branch yX8_branch ∈ tb ∧ 8 < 10 := ⟨tb_at 956 (by decide +kernel) rfl, tb_at 957 (by decide +kernel) rfl, by decide⟩
set_option maxRecDepth 100000 in
theorem ml_L_92 : Cond.methodLink RL 92 yX9_branch ∈ tb := tb_at 1468 (by decide +kernel) rfl
set_option maxRecDepth 100000 in
theorem mf_X9_branch : MF yX9_branch cX9_branch 7 (some .int) 5 := ⟨tb_at 1471 (by decide +kernel) rfl, tb_at 113 (by decide +kernel) rfl, by decide +kernel, by decide +kernel, by decide +kernel⟩
set_option maxRecDepth 100000 in
theorem mv_X9_branch : Cond.instanceMethod yX9_branch ∈ tb ∧ Cond.selects (Cn 9) yX9_branch yX9_branch ∈ tb ∧ 9 < 10 := ⟨tb_at 1469 (by decide +kernel) rfl, tb_at 1470 (by decide +kernel) rfl, by decide⟩
set_option maxRecDepth 100000 in
theorem ml_L_93 : Cond.methodLink RL 93 yX8_tree ∈ tb := tb_at 973 (by decide +kernel) rfl
set_option maxRecDepth 100000 in
theorem mf_X8_tree : MF yX8_tree cX8_tree 6 (some .int) 4 := ⟨tb_at 976 (by decide +kernel) rfl, tb_at 105 (by decide +kernel) rfl, by decide +kernel, by decide +kernel, by decide +kernel⟩
set_option maxRecDepth 100000 in
theorem mv_X8_tree : Cond.instanceMethod yX8_tree ∈ tb ∧ Cond.selects (Cn 8) yX8_tree yX8_tree ∈ tb ∧ 8 < 10 := ⟨tb_at 974 (by decide +kernel) rfl, tb_at 975 (by decide +kernel) rfl, by decide⟩
set_option maxRecDepth 100000 in
theorem ml_L_97 : Cond.methodLink RL 97 yX9_tree ∈ tb := tb_at 1472 (by decide +kernel) rfl
set_option maxRecDepth 100000 in
theorem mf_X9_tree : MF yX9_tree cX9_tree 6 (some .int) 4 := ⟨tb_at 1475 (by decide +kernel) rfl, tb_at 113 (by decide +kernel) rfl, by decide +kernel, by decide +kernel, by decide +kernel⟩
set_option maxRecDepth 100000 in
theorem mv_X9_tree : Cond.instanceMethod yX9_tree ∈ tb ∧ Cond.selects (Cn 9) yX9_tree yX9_tree ∈ tb ∧ 9 < 10 := ⟨tb_at 1473 (by decide +kernel) rfl, tb_at 1474 (by decide +kernel) rfl, by decide⟩
set_option maxRecDepth 100000 in
theorem ml_L_98 : Cond.methodLink RL 98 yX8_count ∈ tb := tb_at 993 (by decide +kernel) rfl
set_option maxRecDepth 100000 in
theorem mf_X8_count : MF yX8_count cX8_count 2 (some .int) 1 := ⟨tb_at 996 (by decide +kernel) rfl, tb_at 105 (by decide +kernel) rfl, by decide +kernel, by decide +kernel, by decide +kernel⟩
set_option maxRecDepth 100000 in
theorem mv_X8_count : Cond.instanceMethod yX8_count ∈ tb ∧ Cond.selects (Cn 8) yX8_count yX8_count ∈ tb ∧ 8 < 10 := ⟨tb_at 994 (by decide +kernel) rfl, tb_at 995 (by decide +kernel) rfl, by decide⟩
set_option maxRecDepth 100000 in
theorem ml_L_101 : Cond.methodLink RL 101 yX9_count ∈ tb := tb_at 1480 (by decide +kernel) rfl
set_option maxRecDepth 100000 in
theorem mf_X9_count : MF yX9_count cX9_count 2 (some .int) 1 := ⟨tb_at 1483 (by decide +kernel) rfl, tb_at 113 (by decide +kernel) rfl, by decide +kernel, by decide +kernel, by decide +kernel⟩
set_option maxRecDepth 100000 in
theorem mv_X9_count : Cond.instanceMethod yX9_count ∈ tb ∧ Cond.selects (Cn 9) yX9_count yX9_count ∈ tb ∧ 9 < 10 := ⟨tb_at 1481 (by decide +kernel) rfl, tb_at 1482 (by decide +kernel) rfl, by decide⟩
set_option maxRecDepth 100000 in
theorem cl_L_7 : Cond.classLink RL 7 (Cn 8) ∈ tb := tb_at 118 (by decide +kernel) rfl
set_option maxRecDepth 100000 in
theorem ml_L_9 : Cond.methodLink RL 9 yL_cell ∈ tb := tb_at 1001 (by decide +kernel) rfl
set_option maxRecDepth 100000 in
theorem ml_L_15 : Cond.methodLink RL 15 yX8_init ∈ tb := tb_at 120 (by decide +kernel) rfl
set_option maxRecDepth 100000 in
theorem mf_X8_init : MF yX8_init cX8_init 4 none 1 := ⟨tb_at 122 (by decide +kernel) rfl, tb_at 105 (by decide +kernel) rfl, by decide +kernel, by decide +kernel, by decide +kernel⟩
set_option maxRecDepth 100000 in
theorem mi_X8_init : Cond.instanceMethod yX8_init ∈ tb ∧ (yX8_init).name = "<init>" := ⟨tb_at 121 (by decide +kernel) rfl, rfl⟩
set_option maxRecDepth 100000 in
theorem cl_L_18 : Cond.classLink RL 18 (Cn 9) ∈ tb := tb_at 1004 (by decide +kernel) rfl
set_option maxRecDepth 100000 in
theorem ml_L_20 : Cond.methodLink RL 20 yX9_init ∈ tb := tb_at 1006 (by decide +kernel) rfl
set_option maxRecDepth 100000 in
theorem mf_X9_init : MF yX9_init cX9_init 3 none 1 := ⟨tb_at 1008 (by decide +kernel) rfl, tb_at 113 (by decide +kernel) rfl, by decide +kernel, by decide +kernel, by decide +kernel⟩
set_option maxRecDepth 100000 in
theorem mi_X9_init : Cond.instanceMethod yX9_init ∈ tb ∧ (yX9_init).name = "<init>" := ⟨tb_at 1007 (by decide +kernel) rfl, rfl⟩
/-! GroveWorksLaw.law([I)Z makes -/
theorem dL_law_0 : decode cL_law 0 = .ok (.new 7, 3) := by decide +kernel
theorem dL_law_3 : decode cL_law 3 = .ok (.dup, 1) := by decide +kernel
theorem dL_law_4 : decode cL_law 4 = .ok (.aload_n 0, 1) := by decide +kernel
theorem dL_law_5 : decode cL_law 5 = .ok (.iconst 0, 1) := by decide +kernel
theorem dL_law_6 : decode cL_law 6 = .ok (.invokestatic 9, 3) := by decide +kernel
theorem dL_law_9 : decode cL_law 9 = .ok (.invokespecial 15, 3) := by decide +kernel
theorem dL_law_12 : decode cL_law 12 = .ok (.astore_n 1, 1) := by decide +kernel
theorem dL_law_13 : decode cL_law 13 = .ok (.new 18, 3) := by decide +kernel
theorem dL_law_16 : decode cL_law 16 = .ok (.dup, 1) := by decide +kernel
theorem dL_law_17 : decode cL_law 17 = .ok (.aload_n 0, 1) := by decide +kernel
theorem dL_law_18 : decode cL_law 18 = .ok (.iconst 0, 1) := by decide +kernel
theorem dL_law_19 : decode cL_law 19 = .ok (.invokestatic 9, 3) := by decide +kernel
theorem dL_law_22 : decode cL_law 22 = .ok (.invokespecial 20, 3) := by decide +kernel
theorem dL_law_25 : decode cL_law 25 = .ok (.astore_n 2, 1) := by decide +kernel
theorem dL_law_26 : decode cL_law 26 = .ok (.iconst 1, 1) := by decide +kernel
theorem dL_law_27 : decode cL_law 27 = .ok (.istore_n 3, 1) := by decide +kernel
theorem dL_law_28 : decode cL_law 28 = .ok (.iload_n 3, 1) := by decide +kernel
theorem dL_law_29 : decode cL_law 29 = .ok (.aload_n 0, 1) := by decide +kernel
theorem dL_law_30 : decode cL_law 30 = .ok (.arraylength, 1) := by decide +kernel
theorem dL_law_31 : decode cL_law 31 = .ok (.bipush 6, 2) := by decide +kernel
theorem dL_law_33 : decode cL_law 33 = .ok (.isub, 1) := by decide +kernel
theorem dL_law_34 : decode cL_law 34 = .ok (.if_icmp .gt 790, 3) := by decide +kernel
theorem dL_law_37 : decode cL_law 37 = .ok (.aload_n 0, 1) := by decide +kernel
theorem dL_law_38 : decode cL_law 38 = .ok (.iload_n 3, 1) := by decide +kernel
theorem dL_law_39 : decode cL_law 39 = .ok (.iaload, 1) := by decide +kernel
theorem dL_law_40 : decode cL_law 40 = .ok (.bipush 31, 2) := by decide +kernel
theorem dL_law_42 : decode cL_law 42 = .ok (.iand, 1) := by decide +kernel
theorem dL_law_43 : decode cL_law 43 = .ok (.tableswitch 775 0 17 #[85, 138, 171, 204, 227, 250, 283, 316, 349, 382, 405, 438, 481, 550, 593, 636, 699, 752], 85) := by decide +kernel
theorem dL_law_128 : decode cL_law 128 = .ok (.aload_n 1, 1) := by decide +kernel
theorem dL_law_129 : decode cL_law 129 = .ok (.aload_n 0, 1) := by decide +kernel
theorem dL_law_130 : decode cL_law 130 = .ok (.iload_n 3, 1) := by decide +kernel
theorem dL_law_131 : decode cL_law 131 = .ok (.iconst 1, 1) := by decide +kernel
theorem dL_law_132 : decode cL_law 132 = .ok (.iadd, 1) := by decide +kernel
theorem dL_law_133 : decode cL_law 133 = .ok (.iaload, 1) := by decide +kernel
theorem dL_law_134 : decode cL_law 134 = .ok (.aload_n 0, 1) := by decide +kernel
theorem dL_law_135 : decode cL_law 135 = .ok (.iload_n 3, 1) := by decide +kernel
theorem dL_law_136 : decode cL_law 136 = .ok (.iconst 2, 1) := by decide +kernel
theorem dL_law_137 : decode cL_law 137 = .ok (.iadd, 1) := by decide +kernel
theorem dL_law_138 : decode cL_law 138 = .ok (.iaload, 1) := by decide +kernel
theorem dL_law_139 : decode cL_law 139 = .ok (.aload_n 0, 1) := by decide +kernel
theorem dL_law_140 : decode cL_law 140 = .ok (.iload_n 3, 1) := by decide +kernel
theorem dL_law_141 : decode cL_law 141 = .ok (.iconst 3, 1) := by decide +kernel
theorem dL_law_142 : decode cL_law 142 = .ok (.iadd, 1) := by decide +kernel
theorem dL_law_143 : decode cL_law 143 = .ok (.iaload, 1) := by decide +kernel
theorem dL_law_144 : decode cL_law 144 = .ok (.aload_n 0, 1) := by decide +kernel
theorem dL_law_145 : decode cL_law 145 = .ok (.iload_n 3, 1) := by decide +kernel
theorem dL_law_146 : decode cL_law 146 = .ok (.iconst 4, 1) := by decide +kernel
theorem dL_law_147 : decode cL_law 147 = .ok (.iadd, 1) := by decide +kernel
theorem dL_law_148 : decode cL_law 148 = .ok (.iaload, 1) := by decide +kernel
theorem dL_law_149 : decode cL_law 149 = .ok (.invokevirtual 21, 3) := by decide +kernel
theorem dL_law_152 : decode cL_law 152 = .ok (.aload_n 2, 1) := by decide +kernel
theorem dL_law_153 : decode cL_law 153 = .ok (.aload_n 0, 1) := by decide +kernel
theorem dL_law_154 : decode cL_law 154 = .ok (.iload_n 3, 1) := by decide +kernel
theorem dL_law_155 : decode cL_law 155 = .ok (.iconst 1, 1) := by decide +kernel
theorem dL_law_156 : decode cL_law 156 = .ok (.iadd, 1) := by decide +kernel
theorem dL_law_157 : decode cL_law 157 = .ok (.iaload, 1) := by decide +kernel
theorem dL_law_158 : decode cL_law 158 = .ok (.aload_n 0, 1) := by decide +kernel
theorem dL_law_159 : decode cL_law 159 = .ok (.iload_n 3, 1) := by decide +kernel
theorem dL_law_160 : decode cL_law 160 = .ok (.iconst 2, 1) := by decide +kernel
theorem dL_law_161 : decode cL_law 161 = .ok (.iadd, 1) := by decide +kernel
theorem dL_law_162 : decode cL_law 162 = .ok (.iaload, 1) := by decide +kernel
theorem dL_law_163 : decode cL_law 163 = .ok (.aload_n 0, 1) := by decide +kernel
theorem dL_law_164 : decode cL_law 164 = .ok (.iload_n 3, 1) := by decide +kernel
theorem dL_law_165 : decode cL_law 165 = .ok (.iconst 3, 1) := by decide +kernel
theorem dL_law_166 : decode cL_law 166 = .ok (.iadd, 1) := by decide +kernel
theorem dL_law_167 : decode cL_law 167 = .ok (.iaload, 1) := by decide +kernel
theorem dL_law_168 : decode cL_law 168 = .ok (.aload_n 0, 1) := by decide +kernel
theorem dL_law_169 : decode cL_law 169 = .ok (.iload_n 3, 1) := by decide +kernel
theorem dL_law_170 : decode cL_law 170 = .ok (.iconst 4, 1) := by decide +kernel
theorem dL_law_171 : decode cL_law 171 = .ok (.iadd, 1) := by decide +kernel
theorem dL_law_172 : decode cL_law 172 = .ok (.iaload, 1) := by decide +kernel
theorem dL_law_173 : decode cL_law 173 = .ok (.invokevirtual 25, 3) := by decide +kernel
theorem dL_law_176 : decode cL_law 176 = .ok (.if_icmp .eq 642, 3) := by decide +kernel
theorem dL_law_179 : decode cL_law 179 = .ok (.iconst 0, 1) := by decide +kernel
theorem dL_law_180 : decode cL_law 180 = .ok (.ireturn, 1) := by decide +kernel
theorem dL_law_181 : decode cL_law 181 = .ok (.aload_n 1, 1) := by decide +kernel
theorem dL_law_182 : decode cL_law 182 = .ok (.aload_n 0, 1) := by decide +kernel
theorem dL_law_183 : decode cL_law 183 = .ok (.iload_n 3, 1) := by decide +kernel
theorem dL_law_184 : decode cL_law 184 = .ok (.iconst 1, 1) := by decide +kernel
theorem dL_law_185 : decode cL_law 185 = .ok (.iadd, 1) := by decide +kernel
theorem dL_law_186 : decode cL_law 186 = .ok (.iaload, 1) := by decide +kernel
theorem dL_law_187 : decode cL_law 187 = .ok (.aload_n 0, 1) := by decide +kernel
theorem dL_law_188 : decode cL_law 188 = .ok (.iload_n 3, 1) := by decide +kernel
theorem dL_law_189 : decode cL_law 189 = .ok (.iconst 2, 1) := by decide +kernel
theorem dL_law_190 : decode cL_law 190 = .ok (.iadd, 1) := by decide +kernel
theorem dL_law_191 : decode cL_law 191 = .ok (.iaload, 1) := by decide +kernel
theorem dL_law_192 : decode cL_law 192 = .ok (.invokevirtual 26, 3) := by decide +kernel
theorem dL_law_195 : decode cL_law 195 = .ok (.aload_n 2, 1) := by decide +kernel
theorem dL_law_196 : decode cL_law 196 = .ok (.aload_n 0, 1) := by decide +kernel
theorem dL_law_197 : decode cL_law 197 = .ok (.iload_n 3, 1) := by decide +kernel
theorem dL_law_198 : decode cL_law 198 = .ok (.iconst 1, 1) := by decide +kernel
theorem dL_law_199 : decode cL_law 199 = .ok (.iadd, 1) := by decide +kernel
theorem dL_law_200 : decode cL_law 200 = .ok (.iaload, 1) := by decide +kernel
theorem dL_law_201 : decode cL_law 201 = .ok (.aload_n 0, 1) := by decide +kernel
theorem dL_law_202 : decode cL_law 202 = .ok (.iload_n 3, 1) := by decide +kernel
theorem dL_law_203 : decode cL_law 203 = .ok (.iconst 2, 1) := by decide +kernel
theorem dL_law_204 : decode cL_law 204 = .ok (.iadd, 1) := by decide +kernel
theorem dL_law_205 : decode cL_law 205 = .ok (.iaload, 1) := by decide +kernel
theorem dL_law_206 : decode cL_law 206 = .ok (.invokevirtual 30, 3) := by decide +kernel
theorem dL_law_209 : decode cL_law 209 = .ok (.if_icmp .eq 609, 3) := by decide +kernel
theorem dL_law_212 : decode cL_law 212 = .ok (.iconst 0, 1) := by decide +kernel
theorem dL_law_213 : decode cL_law 213 = .ok (.ireturn, 1) := by decide +kernel
theorem dL_law_214 : decode cL_law 214 = .ok (.aload_n 1, 1) := by decide +kernel
theorem dL_law_215 : decode cL_law 215 = .ok (.aload_n 0, 1) := by decide +kernel
theorem dL_law_216 : decode cL_law 216 = .ok (.iload_n 3, 1) := by decide +kernel
theorem dL_law_217 : decode cL_law 217 = .ok (.iconst 1, 1) := by decide +kernel
theorem dL_law_218 : decode cL_law 218 = .ok (.iadd, 1) := by decide +kernel
theorem dL_law_219 : decode cL_law 219 = .ok (.iaload, 1) := by decide +kernel
theorem dL_law_220 : decode cL_law 220 = .ok (.aload_n 0, 1) := by decide +kernel
theorem dL_law_221 : decode cL_law 221 = .ok (.iload_n 3, 1) := by decide +kernel
theorem dL_law_222 : decode cL_law 222 = .ok (.iconst 2, 1) := by decide +kernel
theorem dL_law_223 : decode cL_law 223 = .ok (.iadd, 1) := by decide +kernel
theorem dL_law_224 : decode cL_law 224 = .ok (.iaload, 1) := by decide +kernel
theorem dL_law_225 : decode cL_law 225 = .ok (.invokevirtual 31, 3) := by decide +kernel
theorem dL_law_228 : decode cL_law 228 = .ok (.aload_n 2, 1) := by decide +kernel
theorem dL_law_229 : decode cL_law 229 = .ok (.aload_n 0, 1) := by decide +kernel
theorem dL_law_230 : decode cL_law 230 = .ok (.iload_n 3, 1) := by decide +kernel
theorem dL_law_231 : decode cL_law 231 = .ok (.iconst 1, 1) := by decide +kernel
theorem dL_law_232 : decode cL_law 232 = .ok (.iadd, 1) := by decide +kernel
theorem dL_law_233 : decode cL_law 233 = .ok (.iaload, 1) := by decide +kernel
theorem dL_law_234 : decode cL_law 234 = .ok (.aload_n 0, 1) := by decide +kernel
theorem dL_law_235 : decode cL_law 235 = .ok (.iload_n 3, 1) := by decide +kernel
theorem dL_law_236 : decode cL_law 236 = .ok (.iconst 2, 1) := by decide +kernel
theorem dL_law_237 : decode cL_law 237 = .ok (.iadd, 1) := by decide +kernel
theorem dL_law_238 : decode cL_law 238 = .ok (.iaload, 1) := by decide +kernel
theorem dL_law_239 : decode cL_law 239 = .ok (.invokevirtual 34, 3) := by decide +kernel
theorem dL_law_242 : decode cL_law 242 = .ok (.if_icmp .eq 576, 3) := by decide +kernel
theorem dL_law_245 : decode cL_law 245 = .ok (.iconst 0, 1) := by decide +kernel
theorem dL_law_246 : decode cL_law 246 = .ok (.ireturn, 1) := by decide +kernel
theorem dL_law_247 : decode cL_law 247 = .ok (.aload_n 1, 1) := by decide +kernel
theorem dL_law_248 : decode cL_law 248 = .ok (.aload_n 0, 1) := by decide +kernel
theorem dL_law_249 : decode cL_law 249 = .ok (.iload_n 3, 1) := by decide +kernel
theorem dL_law_250 : decode cL_law 250 = .ok (.iconst 1, 1) := by decide +kernel
theorem dL_law_251 : decode cL_law 251 = .ok (.iadd, 1) := by decide +kernel
theorem dL_law_252 : decode cL_law 252 = .ok (.iaload, 1) := by decide +kernel
theorem dL_law_253 : decode cL_law 253 = .ok (.invokevirtual 35, 3) := by decide +kernel
theorem dL_law_256 : decode cL_law 256 = .ok (.aload_n 2, 1) := by decide +kernel
theorem dL_law_257 : decode cL_law 257 = .ok (.aload_n 0, 1) := by decide +kernel
theorem dL_law_258 : decode cL_law 258 = .ok (.iload_n 3, 1) := by decide +kernel
theorem dL_law_259 : decode cL_law 259 = .ok (.iconst 1, 1) := by decide +kernel
theorem dL_law_260 : decode cL_law 260 = .ok (.iadd, 1) := by decide +kernel
theorem dL_law_261 : decode cL_law 261 = .ok (.iaload, 1) := by decide +kernel
theorem dL_law_262 : decode cL_law 262 = .ok (.invokevirtual 39, 3) := by decide +kernel
theorem dL_law_265 : decode cL_law 265 = .ok (.if_icmp .eq 553, 3) := by decide +kernel
theorem dL_law_268 : decode cL_law 268 = .ok (.iconst 0, 1) := by decide +kernel
theorem dL_law_269 : decode cL_law 269 = .ok (.ireturn, 1) := by decide +kernel
theorem dL_law_270 : decode cL_law 270 = .ok (.aload_n 1, 1) := by decide +kernel
theorem dL_law_271 : decode cL_law 271 = .ok (.aload_n 0, 1) := by decide +kernel
theorem dL_law_272 : decode cL_law 272 = .ok (.iload_n 3, 1) := by decide +kernel
theorem dL_law_273 : decode cL_law 273 = .ok (.iconst 1, 1) := by decide +kernel
theorem dL_law_274 : decode cL_law 274 = .ok (.iadd, 1) := by decide +kernel
theorem dL_law_275 : decode cL_law 275 = .ok (.iaload, 1) := by decide +kernel
theorem dL_law_276 : decode cL_law 276 = .ok (.invokevirtual 40, 3) := by decide +kernel
theorem dL_law_279 : decode cL_law 279 = .ok (.aload_n 2, 1) := by decide +kernel
theorem dL_law_280 : decode cL_law 280 = .ok (.aload_n 0, 1) := by decide +kernel
theorem dL_law_281 : decode cL_law 281 = .ok (.iload_n 3, 1) := by decide +kernel
theorem dL_law_282 : decode cL_law 282 = .ok (.iconst 1, 1) := by decide +kernel
theorem dL_law_283 : decode cL_law 283 = .ok (.iadd, 1) := by decide +kernel
theorem dL_law_284 : decode cL_law 284 = .ok (.iaload, 1) := by decide +kernel
theorem dL_law_285 : decode cL_law 285 = .ok (.invokevirtual 43, 3) := by decide +kernel
theorem dL_law_288 : decode cL_law 288 = .ok (.if_icmp .eq 530, 3) := by decide +kernel
theorem dL_law_291 : decode cL_law 291 = .ok (.iconst 0, 1) := by decide +kernel
theorem dL_law_292 : decode cL_law 292 = .ok (.ireturn, 1) := by decide +kernel
theorem dL_law_293 : decode cL_law 293 = .ok (.aload_n 1, 1) := by decide +kernel
theorem dL_law_294 : decode cL_law 294 = .ok (.aload_n 0, 1) := by decide +kernel
theorem dL_law_295 : decode cL_law 295 = .ok (.iload_n 3, 1) := by decide +kernel
theorem dL_law_296 : decode cL_law 296 = .ok (.iconst 1, 1) := by decide +kernel
theorem dL_law_297 : decode cL_law 297 = .ok (.iadd, 1) := by decide +kernel
theorem dL_law_298 : decode cL_law 298 = .ok (.iaload, 1) := by decide +kernel
theorem dL_law_299 : decode cL_law 299 = .ok (.aload_n 0, 1) := by decide +kernel
theorem dL_law_300 : decode cL_law 300 = .ok (.iload_n 3, 1) := by decide +kernel
theorem dL_law_301 : decode cL_law 301 = .ok (.iconst 2, 1) := by decide +kernel
theorem dL_law_302 : decode cL_law 302 = .ok (.iadd, 1) := by decide +kernel
theorem dL_law_303 : decode cL_law 303 = .ok (.iaload, 1) := by decide +kernel
theorem dL_law_304 : decode cL_law 304 = .ok (.invokevirtual 44, 3) := by decide +kernel
theorem dL_law_307 : decode cL_law 307 = .ok (.aload_n 2, 1) := by decide +kernel
theorem dL_law_308 : decode cL_law 308 = .ok (.aload_n 0, 1) := by decide +kernel
theorem dL_law_309 : decode cL_law 309 = .ok (.iload_n 3, 1) := by decide +kernel
theorem dL_law_310 : decode cL_law 310 = .ok (.iconst 1, 1) := by decide +kernel
theorem dL_law_311 : decode cL_law 311 = .ok (.iadd, 1) := by decide +kernel
theorem dL_law_312 : decode cL_law 312 = .ok (.iaload, 1) := by decide +kernel
theorem dL_law_313 : decode cL_law 313 = .ok (.aload_n 0, 1) := by decide +kernel
theorem dL_law_314 : decode cL_law 314 = .ok (.iload_n 3, 1) := by decide +kernel
theorem dL_law_315 : decode cL_law 315 = .ok (.iconst 2, 1) := by decide +kernel
theorem dL_law_316 : decode cL_law 316 = .ok (.iadd, 1) := by decide +kernel
theorem dL_law_317 : decode cL_law 317 = .ok (.iaload, 1) := by decide +kernel
theorem dL_law_318 : decode cL_law 318 = .ok (.invokevirtual 47, 3) := by decide +kernel
theorem dL_law_321 : decode cL_law 321 = .ok (.if_icmp .eq 497, 3) := by decide +kernel
theorem dL_law_324 : decode cL_law 324 = .ok (.iconst 0, 1) := by decide +kernel
theorem dL_law_325 : decode cL_law 325 = .ok (.ireturn, 1) := by decide +kernel
theorem dL_law_326 : decode cL_law 326 = .ok (.aload_n 1, 1) := by decide +kernel
theorem dL_law_327 : decode cL_law 327 = .ok (.aload_n 0, 1) := by decide +kernel
theorem dL_law_328 : decode cL_law 328 = .ok (.iload_n 3, 1) := by decide +kernel
theorem dL_law_329 : decode cL_law 329 = .ok (.iconst 1, 1) := by decide +kernel
theorem dL_law_330 : decode cL_law 330 = .ok (.iadd, 1) := by decide +kernel
theorem dL_law_331 : decode cL_law 331 = .ok (.iaload, 1) := by decide +kernel
theorem dL_law_332 : decode cL_law 332 = .ok (.aload_n 0, 1) := by decide +kernel
theorem dL_law_333 : decode cL_law 333 = .ok (.iload_n 3, 1) := by decide +kernel
theorem dL_law_334 : decode cL_law 334 = .ok (.iconst 2, 1) := by decide +kernel
theorem dL_law_335 : decode cL_law 335 = .ok (.iadd, 1) := by decide +kernel
theorem dL_law_336 : decode cL_law 336 = .ok (.iaload, 1) := by decide +kernel
theorem dL_law_337 : decode cL_law 337 = .ok (.invokevirtual 48, 3) := by decide +kernel
theorem dL_law_340 : decode cL_law 340 = .ok (.aload_n 2, 1) := by decide +kernel
theorem dL_law_341 : decode cL_law 341 = .ok (.aload_n 0, 1) := by decide +kernel
theorem dL_law_342 : decode cL_law 342 = .ok (.iload_n 3, 1) := by decide +kernel
theorem dL_law_343 : decode cL_law 343 = .ok (.iconst 1, 1) := by decide +kernel
theorem dL_law_344 : decode cL_law 344 = .ok (.iadd, 1) := by decide +kernel
theorem dL_law_345 : decode cL_law 345 = .ok (.iaload, 1) := by decide +kernel
theorem dL_law_346 : decode cL_law 346 = .ok (.aload_n 0, 1) := by decide +kernel
theorem dL_law_347 : decode cL_law 347 = .ok (.iload_n 3, 1) := by decide +kernel
theorem dL_law_348 : decode cL_law 348 = .ok (.iconst 2, 1) := by decide +kernel
theorem dL_law_349 : decode cL_law 349 = .ok (.iadd, 1) := by decide +kernel
theorem dL_law_350 : decode cL_law 350 = .ok (.iaload, 1) := by decide +kernel
theorem dL_law_351 : decode cL_law 351 = .ok (.invokevirtual 51, 3) := by decide +kernel
theorem dL_law_354 : decode cL_law 354 = .ok (.if_icmp .eq 464, 3) := by decide +kernel
theorem dL_law_357 : decode cL_law 357 = .ok (.iconst 0, 1) := by decide +kernel
theorem dL_law_358 : decode cL_law 358 = .ok (.ireturn, 1) := by decide +kernel
theorem dL_law_359 : decode cL_law 359 = .ok (.aload_n 1, 1) := by decide +kernel
theorem dL_law_360 : decode cL_law 360 = .ok (.aload_n 0, 1) := by decide +kernel
theorem dL_law_361 : decode cL_law 361 = .ok (.iload_n 3, 1) := by decide +kernel
theorem dL_law_362 : decode cL_law 362 = .ok (.iconst 1, 1) := by decide +kernel
theorem dL_law_363 : decode cL_law 363 = .ok (.iadd, 1) := by decide +kernel
theorem dL_law_364 : decode cL_law 364 = .ok (.iaload, 1) := by decide +kernel
theorem dL_law_365 : decode cL_law 365 = .ok (.aload_n 0, 1) := by decide +kernel
theorem dL_law_366 : decode cL_law 366 = .ok (.iload_n 3, 1) := by decide +kernel
theorem dL_law_367 : decode cL_law 367 = .ok (.iconst 2, 1) := by decide +kernel
theorem dL_law_368 : decode cL_law 368 = .ok (.iadd, 1) := by decide +kernel
theorem dL_law_369 : decode cL_law 369 = .ok (.iaload, 1) := by decide +kernel
theorem dL_law_370 : decode cL_law 370 = .ok (.invokevirtual 52, 3) := by decide +kernel
theorem dL_law_373 : decode cL_law 373 = .ok (.aload_n 2, 1) := by decide +kernel
theorem dL_law_374 : decode cL_law 374 = .ok (.aload_n 0, 1) := by decide +kernel
theorem dL_law_375 : decode cL_law 375 = .ok (.iload_n 3, 1) := by decide +kernel
theorem dL_law_376 : decode cL_law 376 = .ok (.iconst 1, 1) := by decide +kernel
theorem dL_law_377 : decode cL_law 377 = .ok (.iadd, 1) := by decide +kernel
theorem dL_law_378 : decode cL_law 378 = .ok (.iaload, 1) := by decide +kernel
theorem dL_law_379 : decode cL_law 379 = .ok (.aload_n 0, 1) := by decide +kernel
theorem dL_law_380 : decode cL_law 380 = .ok (.iload_n 3, 1) := by decide +kernel
theorem dL_law_381 : decode cL_law 381 = .ok (.iconst 2, 1) := by decide +kernel
theorem dL_law_382 : decode cL_law 382 = .ok (.iadd, 1) := by decide +kernel
theorem dL_law_383 : decode cL_law 383 = .ok (.iaload, 1) := by decide +kernel
theorem dL_law_384 : decode cL_law 384 = .ok (.invokevirtual 56, 3) := by decide +kernel
theorem dL_law_387 : decode cL_law 387 = .ok (.if_icmp .eq 431, 3) := by decide +kernel
theorem dL_law_390 : decode cL_law 390 = .ok (.iconst 0, 1) := by decide +kernel
theorem dL_law_391 : decode cL_law 391 = .ok (.ireturn, 1) := by decide +kernel
theorem dL_law_392 : decode cL_law 392 = .ok (.aload_n 1, 1) := by decide +kernel
theorem dL_law_393 : decode cL_law 393 = .ok (.aload_n 0, 1) := by decide +kernel
theorem dL_law_394 : decode cL_law 394 = .ok (.iload_n 3, 1) := by decide +kernel
theorem dL_law_395 : decode cL_law 395 = .ok (.iconst 1, 1) := by decide +kernel
theorem dL_law_396 : decode cL_law 396 = .ok (.iadd, 1) := by decide +kernel
theorem dL_law_397 : decode cL_law 397 = .ok (.iaload, 1) := by decide +kernel
theorem dL_law_398 : decode cL_law 398 = .ok (.aload_n 0, 1) := by decide +kernel
theorem dL_law_399 : decode cL_law 399 = .ok (.iload_n 3, 1) := by decide +kernel
theorem dL_law_400 : decode cL_law 400 = .ok (.iconst 2, 1) := by decide +kernel
theorem dL_law_401 : decode cL_law 401 = .ok (.iadd, 1) := by decide +kernel
theorem dL_law_402 : decode cL_law 402 = .ok (.iaload, 1) := by decide +kernel
theorem dL_law_403 : decode cL_law 403 = .ok (.invokevirtual 57, 3) := by decide +kernel
theorem dL_law_406 : decode cL_law 406 = .ok (.aload_n 2, 1) := by decide +kernel
theorem dL_law_407 : decode cL_law 407 = .ok (.aload_n 0, 1) := by decide +kernel
theorem dL_law_408 : decode cL_law 408 = .ok (.iload_n 3, 1) := by decide +kernel
theorem dL_law_409 : decode cL_law 409 = .ok (.iconst 1, 1) := by decide +kernel
theorem dL_law_410 : decode cL_law 410 = .ok (.iadd, 1) := by decide +kernel
theorem dL_law_411 : decode cL_law 411 = .ok (.iaload, 1) := by decide +kernel
theorem dL_law_412 : decode cL_law 412 = .ok (.aload_n 0, 1) := by decide +kernel
theorem dL_law_413 : decode cL_law 413 = .ok (.iload_n 3, 1) := by decide +kernel
theorem dL_law_414 : decode cL_law 414 = .ok (.iconst 2, 1) := by decide +kernel
theorem dL_law_415 : decode cL_law 415 = .ok (.iadd, 1) := by decide +kernel
theorem dL_law_416 : decode cL_law 416 = .ok (.iaload, 1) := by decide +kernel
theorem dL_law_417 : decode cL_law 417 = .ok (.invokevirtual 60, 3) := by decide +kernel
theorem dL_law_420 : decode cL_law 420 = .ok (.if_icmp .eq 398, 3) := by decide +kernel
theorem dL_law_423 : decode cL_law 423 = .ok (.iconst 0, 1) := by decide +kernel
theorem dL_law_424 : decode cL_law 424 = .ok (.ireturn, 1) := by decide +kernel
theorem dL_law_425 : decode cL_law 425 = .ok (.aload_n 1, 1) := by decide +kernel
theorem dL_law_426 : decode cL_law 426 = .ok (.aload_n 0, 1) := by decide +kernel
theorem dL_law_427 : decode cL_law 427 = .ok (.iload_n 3, 1) := by decide +kernel
theorem dL_law_428 : decode cL_law 428 = .ok (.iconst 1, 1) := by decide +kernel
theorem dL_law_429 : decode cL_law 429 = .ok (.iadd, 1) := by decide +kernel
theorem dL_law_430 : decode cL_law 430 = .ok (.iaload, 1) := by decide +kernel
theorem dL_law_431 : decode cL_law 431 = .ok (.invokevirtual 61, 3) := by decide +kernel
theorem dL_law_434 : decode cL_law 434 = .ok (.aload_n 2, 1) := by decide +kernel
theorem dL_law_435 : decode cL_law 435 = .ok (.aload_n 0, 1) := by decide +kernel
theorem dL_law_436 : decode cL_law 436 = .ok (.iload_n 3, 1) := by decide +kernel
theorem dL_law_437 : decode cL_law 437 = .ok (.iconst 1, 1) := by decide +kernel
theorem dL_law_438 : decode cL_law 438 = .ok (.iadd, 1) := by decide +kernel
theorem dL_law_439 : decode cL_law 439 = .ok (.iaload, 1) := by decide +kernel
theorem dL_law_440 : decode cL_law 440 = .ok (.invokevirtual 65, 3) := by decide +kernel
theorem dL_law_443 : decode cL_law 443 = .ok (.if_icmp .eq 375, 3) := by decide +kernel
theorem dL_law_446 : decode cL_law 446 = .ok (.iconst 0, 1) := by decide +kernel
theorem dL_law_447 : decode cL_law 447 = .ok (.ireturn, 1) := by decide +kernel
theorem dL_law_448 : decode cL_law 448 = .ok (.aload_n 1, 1) := by decide +kernel
theorem dL_law_449 : decode cL_law 449 = .ok (.aload_n 0, 1) := by decide +kernel
theorem dL_law_450 : decode cL_law 450 = .ok (.iload_n 3, 1) := by decide +kernel
theorem dL_law_451 : decode cL_law 451 = .ok (.iconst 1, 1) := by decide +kernel
theorem dL_law_452 : decode cL_law 452 = .ok (.iadd, 1) := by decide +kernel
theorem dL_law_453 : decode cL_law 453 = .ok (.iaload, 1) := by decide +kernel
theorem dL_law_454 : decode cL_law 454 = .ok (.aload_n 0, 1) := by decide +kernel
theorem dL_law_455 : decode cL_law 455 = .ok (.iload_n 3, 1) := by decide +kernel
theorem dL_law_456 : decode cL_law 456 = .ok (.iconst 2, 1) := by decide +kernel
theorem dL_law_457 : decode cL_law 457 = .ok (.iadd, 1) := by decide +kernel
theorem dL_law_458 : decode cL_law 458 = .ok (.iaload, 1) := by decide +kernel
theorem dL_law_459 : decode cL_law 459 = .ok (.invokevirtual 66, 3) := by decide +kernel
theorem dL_law_462 : decode cL_law 462 = .ok (.aload_n 2, 1) := by decide +kernel
theorem dL_law_463 : decode cL_law 463 = .ok (.aload_n 0, 1) := by decide +kernel
theorem dL_law_464 : decode cL_law 464 = .ok (.iload_n 3, 1) := by decide +kernel
theorem dL_law_465 : decode cL_law 465 = .ok (.iconst 1, 1) := by decide +kernel
theorem dL_law_466 : decode cL_law 466 = .ok (.iadd, 1) := by decide +kernel
theorem dL_law_467 : decode cL_law 467 = .ok (.iaload, 1) := by decide +kernel
theorem dL_law_468 : decode cL_law 468 = .ok (.aload_n 0, 1) := by decide +kernel
theorem dL_law_469 : decode cL_law 469 = .ok (.iload_n 3, 1) := by decide +kernel
theorem dL_law_470 : decode cL_law 470 = .ok (.iconst 2, 1) := by decide +kernel
theorem dL_law_471 : decode cL_law 471 = .ok (.iadd, 1) := by decide +kernel
theorem dL_law_472 : decode cL_law 472 = .ok (.iaload, 1) := by decide +kernel
theorem dL_law_473 : decode cL_law 473 = .ok (.invokevirtual 69, 3) := by decide +kernel
theorem dL_law_476 : decode cL_law 476 = .ok (.if_icmp .eq 342, 3) := by decide +kernel
theorem dL_law_479 : decode cL_law 479 = .ok (.iconst 0, 1) := by decide +kernel
theorem dL_law_480 : decode cL_law 480 = .ok (.ireturn, 1) := by decide +kernel
theorem dL_law_481 : decode cL_law 481 = .ok (.aload_n 1, 1) := by decide +kernel
theorem dL_law_482 : decode cL_law 482 = .ok (.aload_n 0, 1) := by decide +kernel
theorem dL_law_483 : decode cL_law 483 = .ok (.iload_n 3, 1) := by decide +kernel
theorem dL_law_484 : decode cL_law 484 = .ok (.iconst 1, 1) := by decide +kernel
theorem dL_law_485 : decode cL_law 485 = .ok (.iadd, 1) := by decide +kernel
theorem dL_law_486 : decode cL_law 486 = .ok (.iaload, 1) := by decide +kernel
theorem dL_law_487 : decode cL_law 487 = .ok (.aload_n 0, 1) := by decide +kernel
theorem dL_law_488 : decode cL_law 488 = .ok (.iload_n 3, 1) := by decide +kernel
theorem dL_law_489 : decode cL_law 489 = .ok (.iconst 2, 1) := by decide +kernel
theorem dL_law_490 : decode cL_law 490 = .ok (.iadd, 1) := by decide +kernel
theorem dL_law_491 : decode cL_law 491 = .ok (.iaload, 1) := by decide +kernel
theorem dL_law_492 : decode cL_law 492 = .ok (.aload_n 0, 1) := by decide +kernel
theorem dL_law_493 : decode cL_law 493 = .ok (.iload_n 3, 1) := by decide +kernel
theorem dL_law_494 : decode cL_law 494 = .ok (.iconst 3, 1) := by decide +kernel
theorem dL_law_495 : decode cL_law 495 = .ok (.iadd, 1) := by decide +kernel
theorem dL_law_496 : decode cL_law 496 = .ok (.iaload, 1) := by decide +kernel
theorem dL_law_497 : decode cL_law 497 = .ok (.invokevirtual 70, 3) := by decide +kernel
theorem dL_law_500 : decode cL_law 500 = .ok (.aload_n 2, 1) := by decide +kernel
theorem dL_law_501 : decode cL_law 501 = .ok (.aload_n 0, 1) := by decide +kernel
theorem dL_law_502 : decode cL_law 502 = .ok (.iload_n 3, 1) := by decide +kernel
theorem dL_law_503 : decode cL_law 503 = .ok (.iconst 1, 1) := by decide +kernel
theorem dL_law_504 : decode cL_law 504 = .ok (.iadd, 1) := by decide +kernel
theorem dL_law_505 : decode cL_law 505 = .ok (.iaload, 1) := by decide +kernel
theorem dL_law_506 : decode cL_law 506 = .ok (.aload_n 0, 1) := by decide +kernel
theorem dL_law_507 : decode cL_law 507 = .ok (.iload_n 3, 1) := by decide +kernel
theorem dL_law_508 : decode cL_law 508 = .ok (.iconst 2, 1) := by decide +kernel
theorem dL_law_509 : decode cL_law 509 = .ok (.iadd, 1) := by decide +kernel
theorem dL_law_510 : decode cL_law 510 = .ok (.iaload, 1) := by decide +kernel
theorem dL_law_511 : decode cL_law 511 = .ok (.aload_n 0, 1) := by decide +kernel
theorem dL_law_512 : decode cL_law 512 = .ok (.iload_n 3, 1) := by decide +kernel
theorem dL_law_513 : decode cL_law 513 = .ok (.iconst 3, 1) := by decide +kernel
theorem dL_law_514 : decode cL_law 514 = .ok (.iadd, 1) := by decide +kernel
theorem dL_law_515 : decode cL_law 515 = .ok (.iaload, 1) := by decide +kernel
theorem dL_law_516 : decode cL_law 516 = .ok (.invokevirtual 74, 3) := by decide +kernel
theorem dL_law_519 : decode cL_law 519 = .ok (.if_icmp .eq 299, 3) := by decide +kernel
theorem dL_law_522 : decode cL_law 522 = .ok (.iconst 0, 1) := by decide +kernel
theorem dL_law_523 : decode cL_law 523 = .ok (.ireturn, 1) := by decide +kernel
theorem dL_law_524 : decode cL_law 524 = .ok (.aload_n 1, 1) := by decide +kernel
theorem dL_law_525 : decode cL_law 525 = .ok (.aload_n 0, 1) := by decide +kernel
theorem dL_law_526 : decode cL_law 526 = .ok (.iload_n 3, 1) := by decide +kernel
theorem dL_law_527 : decode cL_law 527 = .ok (.iconst 1, 1) := by decide +kernel
theorem dL_law_528 : decode cL_law 528 = .ok (.iadd, 1) := by decide +kernel
theorem dL_law_529 : decode cL_law 529 = .ok (.iaload, 1) := by decide +kernel
theorem dL_law_530 : decode cL_law 530 = .ok (.aload_n 0, 1) := by decide +kernel
theorem dL_law_531 : decode cL_law 531 = .ok (.iload_n 3, 1) := by decide +kernel
theorem dL_law_532 : decode cL_law 532 = .ok (.iconst 2, 1) := by decide +kernel
theorem dL_law_533 : decode cL_law 533 = .ok (.iadd, 1) := by decide +kernel
theorem dL_law_534 : decode cL_law 534 = .ok (.iaload, 1) := by decide +kernel
theorem dL_law_535 : decode cL_law 535 = .ok (.ifCond .eq 7, 3) := by decide +kernel
theorem dL_law_538 : decode cL_law 538 = .ok (.iconst 1, 1) := by decide +kernel
theorem dL_law_539 : decode cL_law 539 = .ok (.goto 4, 3) := by decide +kernel
theorem dL_law_542 : decode cL_law 542 = .ok (.iconst 0, 1) := by decide +kernel
theorem dL_law_543 : decode cL_law 543 = .ok (.aload_n 0, 1) := by decide +kernel
theorem dL_law_544 : decode cL_law 544 = .ok (.iload_n 3, 1) := by decide +kernel
theorem dL_law_545 : decode cL_law 545 = .ok (.iconst 3, 1) := by decide +kernel
theorem dL_law_546 : decode cL_law 546 = .ok (.iadd, 1) := by decide +kernel
theorem dL_law_547 : decode cL_law 547 = .ok (.iaload, 1) := by decide +kernel
theorem dL_law_548 : decode cL_law 548 = .ok (.aload_n 0, 1) := by decide +kernel
theorem dL_law_549 : decode cL_law 549 = .ok (.iload_n 3, 1) := by decide +kernel
theorem dL_law_550 : decode cL_law 550 = .ok (.iconst 4, 1) := by decide +kernel
theorem dL_law_551 : decode cL_law 551 = .ok (.iadd, 1) := by decide +kernel
theorem dL_law_552 : decode cL_law 552 = .ok (.iaload, 1) := by decide +kernel
theorem dL_law_553 : decode cL_law 553 = .ok (.invokevirtual 75, 3) := by decide +kernel
theorem dL_law_556 : decode cL_law 556 = .ok (.aload_n 2, 1) := by decide +kernel
theorem dL_law_557 : decode cL_law 557 = .ok (.aload_n 0, 1) := by decide +kernel
theorem dL_law_558 : decode cL_law 558 = .ok (.iload_n 3, 1) := by decide +kernel
theorem dL_law_559 : decode cL_law 559 = .ok (.iconst 1, 1) := by decide +kernel
theorem dL_law_560 : decode cL_law 560 = .ok (.iadd, 1) := by decide +kernel
theorem dL_law_561 : decode cL_law 561 = .ok (.iaload, 1) := by decide +kernel
theorem dL_law_562 : decode cL_law 562 = .ok (.aload_n 0, 1) := by decide +kernel
theorem dL_law_563 : decode cL_law 563 = .ok (.iload_n 3, 1) := by decide +kernel
theorem dL_law_564 : decode cL_law 564 = .ok (.iconst 2, 1) := by decide +kernel
theorem dL_law_565 : decode cL_law 565 = .ok (.iadd, 1) := by decide +kernel
theorem dL_law_566 : decode cL_law 566 = .ok (.iaload, 1) := by decide +kernel
theorem dL_law_567 : decode cL_law 567 = .ok (.ifCond .eq 7, 3) := by decide +kernel
theorem dL_law_570 : decode cL_law 570 = .ok (.iconst 1, 1) := by decide +kernel
theorem dL_law_571 : decode cL_law 571 = .ok (.goto 4, 3) := by decide +kernel
theorem dL_law_574 : decode cL_law 574 = .ok (.iconst 0, 1) := by decide +kernel
theorem dL_law_575 : decode cL_law 575 = .ok (.aload_n 0, 1) := by decide +kernel
theorem dL_law_576 : decode cL_law 576 = .ok (.iload_n 3, 1) := by decide +kernel
theorem dL_law_577 : decode cL_law 577 = .ok (.iconst 3, 1) := by decide +kernel
theorem dL_law_578 : decode cL_law 578 = .ok (.iadd, 1) := by decide +kernel
theorem dL_law_579 : decode cL_law 579 = .ok (.iaload, 1) := by decide +kernel
theorem dL_law_580 : decode cL_law 580 = .ok (.aload_n 0, 1) := by decide +kernel
theorem dL_law_581 : decode cL_law 581 = .ok (.iload_n 3, 1) := by decide +kernel
theorem dL_law_582 : decode cL_law 582 = .ok (.iconst 4, 1) := by decide +kernel
theorem dL_law_583 : decode cL_law 583 = .ok (.iadd, 1) := by decide +kernel
theorem dL_law_584 : decode cL_law 584 = .ok (.iaload, 1) := by decide +kernel
theorem dL_law_585 : decode cL_law 585 = .ok (.invokevirtual 79, 3) := by decide +kernel
theorem dL_law_588 : decode cL_law 588 = .ok (.if_icmp .eq 230, 3) := by decide +kernel
theorem dL_law_591 : decode cL_law 591 = .ok (.iconst 0, 1) := by decide +kernel
theorem dL_law_592 : decode cL_law 592 = .ok (.ireturn, 1) := by decide +kernel
theorem dL_law_593 : decode cL_law 593 = .ok (.aload_n 1, 1) := by decide +kernel
theorem dL_law_594 : decode cL_law 594 = .ok (.aload_n 0, 1) := by decide +kernel
theorem dL_law_595 : decode cL_law 595 = .ok (.iload_n 3, 1) := by decide +kernel
theorem dL_law_596 : decode cL_law 596 = .ok (.iconst 1, 1) := by decide +kernel
theorem dL_law_597 : decode cL_law 597 = .ok (.iadd, 1) := by decide +kernel
theorem dL_law_598 : decode cL_law 598 = .ok (.iaload, 1) := by decide +kernel
theorem dL_law_599 : decode cL_law 599 = .ok (.aload_n 0, 1) := by decide +kernel
theorem dL_law_600 : decode cL_law 600 = .ok (.iload_n 3, 1) := by decide +kernel
theorem dL_law_601 : decode cL_law 601 = .ok (.iconst 2, 1) := by decide +kernel
theorem dL_law_602 : decode cL_law 602 = .ok (.iadd, 1) := by decide +kernel
theorem dL_law_603 : decode cL_law 603 = .ok (.iaload, 1) := by decide +kernel
theorem dL_law_604 : decode cL_law 604 = .ok (.aload_n 0, 1) := by decide +kernel
theorem dL_law_605 : decode cL_law 605 = .ok (.iload_n 3, 1) := by decide +kernel
theorem dL_law_606 : decode cL_law 606 = .ok (.iconst 3, 1) := by decide +kernel
theorem dL_law_607 : decode cL_law 607 = .ok (.iadd, 1) := by decide +kernel
theorem dL_law_608 : decode cL_law 608 = .ok (.iaload, 1) := by decide +kernel
theorem dL_law_609 : decode cL_law 609 = .ok (.invokevirtual 80, 3) := by decide +kernel
theorem dL_law_612 : decode cL_law 612 = .ok (.aload_n 2, 1) := by decide +kernel
theorem dL_law_613 : decode cL_law 613 = .ok (.aload_n 0, 1) := by decide +kernel
theorem dL_law_614 : decode cL_law 614 = .ok (.iload_n 3, 1) := by decide +kernel
theorem dL_law_615 : decode cL_law 615 = .ok (.iconst 1, 1) := by decide +kernel
theorem dL_law_616 : decode cL_law 616 = .ok (.iadd, 1) := by decide +kernel
theorem dL_law_617 : decode cL_law 617 = .ok (.iaload, 1) := by decide +kernel
theorem dL_law_618 : decode cL_law 618 = .ok (.aload_n 0, 1) := by decide +kernel
theorem dL_law_619 : decode cL_law 619 = .ok (.iload_n 3, 1) := by decide +kernel
theorem dL_law_620 : decode cL_law 620 = .ok (.iconst 2, 1) := by decide +kernel
theorem dL_law_621 : decode cL_law 621 = .ok (.iadd, 1) := by decide +kernel
theorem dL_law_622 : decode cL_law 622 = .ok (.iaload, 1) := by decide +kernel
theorem dL_law_623 : decode cL_law 623 = .ok (.aload_n 0, 1) := by decide +kernel
theorem dL_law_624 : decode cL_law 624 = .ok (.iload_n 3, 1) := by decide +kernel
theorem dL_law_625 : decode cL_law 625 = .ok (.iconst 3, 1) := by decide +kernel
theorem dL_law_626 : decode cL_law 626 = .ok (.iadd, 1) := by decide +kernel
theorem dL_law_627 : decode cL_law 627 = .ok (.iaload, 1) := by decide +kernel
theorem dL_law_628 : decode cL_law 628 = .ok (.invokevirtual 83, 3) := by decide +kernel
theorem dL_law_631 : decode cL_law 631 = .ok (.if_icmp .eq 187, 3) := by decide +kernel
theorem dL_law_634 : decode cL_law 634 = .ok (.iconst 0, 1) := by decide +kernel
theorem dL_law_635 : decode cL_law 635 = .ok (.ireturn, 1) := by decide +kernel
theorem dL_law_636 : decode cL_law 636 = .ok (.aload_n 1, 1) := by decide +kernel
theorem dL_law_637 : decode cL_law 637 = .ok (.aload_n 0, 1) := by decide +kernel
theorem dL_law_638 : decode cL_law 638 = .ok (.iload_n 3, 1) := by decide +kernel
theorem dL_law_639 : decode cL_law 639 = .ok (.iconst 1, 1) := by decide +kernel
theorem dL_law_640 : decode cL_law 640 = .ok (.iadd, 1) := by decide +kernel
theorem dL_law_641 : decode cL_law 641 = .ok (.iaload, 1) := by decide +kernel
theorem dL_law_642 : decode cL_law 642 = .ok (.aload_n 0, 1) := by decide +kernel
theorem dL_law_643 : decode cL_law 643 = .ok (.iload_n 3, 1) := by decide +kernel
theorem dL_law_644 : decode cL_law 644 = .ok (.iconst 2, 1) := by decide +kernel
theorem dL_law_645 : decode cL_law 645 = .ok (.iadd, 1) := by decide +kernel
theorem dL_law_646 : decode cL_law 646 = .ok (.iaload, 1) := by decide +kernel
theorem dL_law_647 : decode cL_law 647 = .ok (.aload_n 0, 1) := by decide +kernel
theorem dL_law_648 : decode cL_law 648 = .ok (.iload_n 3, 1) := by decide +kernel
theorem dL_law_649 : decode cL_law 649 = .ok (.iconst 3, 1) := by decide +kernel
theorem dL_law_650 : decode cL_law 650 = .ok (.iadd, 1) := by decide +kernel
theorem dL_law_651 : decode cL_law 651 = .ok (.iaload, 1) := by decide +kernel
theorem dL_law_652 : decode cL_law 652 = .ok (.invokevirtual 84, 3) := by decide +kernel
theorem dL_law_655 : decode cL_law 655 = .ok (.aload_n 2, 1) := by decide +kernel
theorem dL_law_656 : decode cL_law 656 = .ok (.aload_n 0, 1) := by decide +kernel
theorem dL_law_657 : decode cL_law 657 = .ok (.iload_n 3, 1) := by decide +kernel
theorem dL_law_658 : decode cL_law 658 = .ok (.iconst 1, 1) := by decide +kernel
theorem dL_law_659 : decode cL_law 659 = .ok (.iadd, 1) := by decide +kernel
theorem dL_law_660 : decode cL_law 660 = .ok (.iaload, 1) := by decide +kernel
theorem dL_law_661 : decode cL_law 661 = .ok (.aload_n 0, 1) := by decide +kernel
theorem dL_law_662 : decode cL_law 662 = .ok (.iload_n 3, 1) := by decide +kernel
theorem dL_law_663 : decode cL_law 663 = .ok (.iconst 2, 1) := by decide +kernel
theorem dL_law_664 : decode cL_law 664 = .ok (.iadd, 1) := by decide +kernel
theorem dL_law_665 : decode cL_law 665 = .ok (.iaload, 1) := by decide +kernel
theorem dL_law_666 : decode cL_law 666 = .ok (.aload_n 0, 1) := by decide +kernel
theorem dL_law_667 : decode cL_law 667 = .ok (.iload_n 3, 1) := by decide +kernel
theorem dL_law_668 : decode cL_law 668 = .ok (.iconst 3, 1) := by decide +kernel
theorem dL_law_669 : decode cL_law 669 = .ok (.iadd, 1) := by decide +kernel
theorem dL_law_670 : decode cL_law 670 = .ok (.iaload, 1) := by decide +kernel
theorem dL_law_671 : decode cL_law 671 = .ok (.invokevirtual 87, 3) := by decide +kernel
theorem dL_law_674 : decode cL_law 674 = .ok (.if_icmp .eq 144, 3) := by decide +kernel
theorem dL_law_677 : decode cL_law 677 = .ok (.iconst 0, 1) := by decide +kernel
theorem dL_law_678 : decode cL_law 678 = .ok (.ireturn, 1) := by decide +kernel
theorem dL_law_679 : decode cL_law 679 = .ok (.aload_n 1, 1) := by decide +kernel
theorem dL_law_680 : decode cL_law 680 = .ok (.aload_n 0, 1) := by decide +kernel
theorem dL_law_681 : decode cL_law 681 = .ok (.iload_n 3, 1) := by decide +kernel
theorem dL_law_682 : decode cL_law 682 = .ok (.iconst 1, 1) := by decide +kernel
theorem dL_law_683 : decode cL_law 683 = .ok (.iadd, 1) := by decide +kernel
theorem dL_law_684 : decode cL_law 684 = .ok (.iaload, 1) := by decide +kernel
theorem dL_law_685 : decode cL_law 685 = .ok (.aload_n 0, 1) := by decide +kernel
theorem dL_law_686 : decode cL_law 686 = .ok (.iload_n 3, 1) := by decide +kernel
theorem dL_law_687 : decode cL_law 687 = .ok (.iconst 2, 1) := by decide +kernel
theorem dL_law_688 : decode cL_law 688 = .ok (.iadd, 1) := by decide +kernel
theorem dL_law_689 : decode cL_law 689 = .ok (.iaload, 1) := by decide +kernel
theorem dL_law_690 : decode cL_law 690 = .ok (.aload_n 0, 1) := by decide +kernel
theorem dL_law_691 : decode cL_law 691 = .ok (.iload_n 3, 1) := by decide +kernel
theorem dL_law_692 : decode cL_law 692 = .ok (.iconst 3, 1) := by decide +kernel
theorem dL_law_693 : decode cL_law 693 = .ok (.iadd, 1) := by decide +kernel
theorem dL_law_694 : decode cL_law 694 = .ok (.iaload, 1) := by decide +kernel
theorem dL_law_695 : decode cL_law 695 = .ok (.aload_n 0, 1) := by decide +kernel
theorem dL_law_696 : decode cL_law 696 = .ok (.iload_n 3, 1) := by decide +kernel
theorem dL_law_697 : decode cL_law 697 = .ok (.iconst 4, 1) := by decide +kernel
theorem dL_law_698 : decode cL_law 698 = .ok (.iadd, 1) := by decide +kernel
theorem dL_law_699 : decode cL_law 699 = .ok (.iaload, 1) := by decide +kernel
theorem dL_law_700 : decode cL_law 700 = .ok (.aload_n 0, 1) := by decide +kernel
theorem dL_law_701 : decode cL_law 701 = .ok (.iload_n 3, 1) := by decide +kernel
theorem dL_law_702 : decode cL_law 702 = .ok (.iconst 5, 1) := by decide +kernel
theorem dL_law_703 : decode cL_law 703 = .ok (.iadd, 1) := by decide +kernel
theorem dL_law_704 : decode cL_law 704 = .ok (.iaload, 1) := by decide +kernel
theorem dL_law_705 : decode cL_law 705 = .ok (.invokevirtual 88, 3) := by decide +kernel
theorem dL_law_708 : decode cL_law 708 = .ok (.aload_n 2, 1) := by decide +kernel
theorem dL_law_709 : decode cL_law 709 = .ok (.aload_n 0, 1) := by decide +kernel
theorem dL_law_710 : decode cL_law 710 = .ok (.iload_n 3, 1) := by decide +kernel
theorem dL_law_711 : decode cL_law 711 = .ok (.iconst 1, 1) := by decide +kernel
theorem dL_law_712 : decode cL_law 712 = .ok (.iadd, 1) := by decide +kernel
theorem dL_law_713 : decode cL_law 713 = .ok (.iaload, 1) := by decide +kernel
theorem dL_law_714 : decode cL_law 714 = .ok (.aload_n 0, 1) := by decide +kernel
theorem dL_law_715 : decode cL_law 715 = .ok (.iload_n 3, 1) := by decide +kernel
theorem dL_law_716 : decode cL_law 716 = .ok (.iconst 2, 1) := by decide +kernel
theorem dL_law_717 : decode cL_law 717 = .ok (.iadd, 1) := by decide +kernel
theorem dL_law_718 : decode cL_law 718 = .ok (.iaload, 1) := by decide +kernel
theorem dL_law_719 : decode cL_law 719 = .ok (.aload_n 0, 1) := by decide +kernel
theorem dL_law_720 : decode cL_law 720 = .ok (.iload_n 3, 1) := by decide +kernel
theorem dL_law_721 : decode cL_law 721 = .ok (.iconst 3, 1) := by decide +kernel
theorem dL_law_722 : decode cL_law 722 = .ok (.iadd, 1) := by decide +kernel
theorem dL_law_723 : decode cL_law 723 = .ok (.iaload, 1) := by decide +kernel
theorem dL_law_724 : decode cL_law 724 = .ok (.aload_n 0, 1) := by decide +kernel
theorem dL_law_725 : decode cL_law 725 = .ok (.iload_n 3, 1) := by decide +kernel
theorem dL_law_726 : decode cL_law 726 = .ok (.iconst 4, 1) := by decide +kernel
theorem dL_law_727 : decode cL_law 727 = .ok (.iadd, 1) := by decide +kernel
theorem dL_law_728 : decode cL_law 728 = .ok (.iaload, 1) := by decide +kernel
theorem dL_law_729 : decode cL_law 729 = .ok (.aload_n 0, 1) := by decide +kernel
theorem dL_law_730 : decode cL_law 730 = .ok (.iload_n 3, 1) := by decide +kernel
theorem dL_law_731 : decode cL_law 731 = .ok (.iconst 5, 1) := by decide +kernel
theorem dL_law_732 : decode cL_law 732 = .ok (.iadd, 1) := by decide +kernel
theorem dL_law_733 : decode cL_law 733 = .ok (.iaload, 1) := by decide +kernel
theorem dL_law_734 : decode cL_law 734 = .ok (.invokevirtual 92, 3) := by decide +kernel
theorem dL_law_737 : decode cL_law 737 = .ok (.if_icmp .eq 81, 3) := by decide +kernel
theorem dL_law_740 : decode cL_law 740 = .ok (.iconst 0, 1) := by decide +kernel
theorem dL_law_741 : decode cL_law 741 = .ok (.ireturn, 1) := by decide +kernel
theorem dL_law_742 : decode cL_law 742 = .ok (.aload_n 1, 1) := by decide +kernel
theorem dL_law_743 : decode cL_law 743 = .ok (.aload_n 0, 1) := by decide +kernel
theorem dL_law_744 : decode cL_law 744 = .ok (.iload_n 3, 1) := by decide +kernel
theorem dL_law_745 : decode cL_law 745 = .ok (.iconst 1, 1) := by decide +kernel
theorem dL_law_746 : decode cL_law 746 = .ok (.iadd, 1) := by decide +kernel
theorem dL_law_747 : decode cL_law 747 = .ok (.iaload, 1) := by decide +kernel
theorem dL_law_748 : decode cL_law 748 = .ok (.aload_n 0, 1) := by decide +kernel
theorem dL_law_749 : decode cL_law 749 = .ok (.iload_n 3, 1) := by decide +kernel
theorem dL_law_750 : decode cL_law 750 = .ok (.iconst 2, 1) := by decide +kernel
theorem dL_law_751 : decode cL_law 751 = .ok (.iadd, 1) := by decide +kernel
theorem dL_law_752 : decode cL_law 752 = .ok (.iaload, 1) := by decide +kernel
theorem dL_law_753 : decode cL_law 753 = .ok (.aload_n 0, 1) := by decide +kernel
theorem dL_law_754 : decode cL_law 754 = .ok (.iload_n 3, 1) := by decide +kernel
theorem dL_law_755 : decode cL_law 755 = .ok (.iconst 3, 1) := by decide +kernel
theorem dL_law_756 : decode cL_law 756 = .ok (.iadd, 1) := by decide +kernel
theorem dL_law_757 : decode cL_law 757 = .ok (.iaload, 1) := by decide +kernel
theorem dL_law_758 : decode cL_law 758 = .ok (.aload_n 0, 1) := by decide +kernel
theorem dL_law_759 : decode cL_law 759 = .ok (.iload_n 3, 1) := by decide +kernel
theorem dL_law_760 : decode cL_law 760 = .ok (.iconst 4, 1) := by decide +kernel
theorem dL_law_761 : decode cL_law 761 = .ok (.iadd, 1) := by decide +kernel
theorem dL_law_762 : decode cL_law 762 = .ok (.iaload, 1) := by decide +kernel
theorem dL_law_763 : decode cL_law 763 = .ok (.invokevirtual 93, 3) := by decide +kernel
theorem dL_law_766 : decode cL_law 766 = .ok (.aload_n 2, 1) := by decide +kernel
theorem dL_law_767 : decode cL_law 767 = .ok (.aload_n 0, 1) := by decide +kernel
theorem dL_law_768 : decode cL_law 768 = .ok (.iload_n 3, 1) := by decide +kernel
theorem dL_law_769 : decode cL_law 769 = .ok (.iconst 1, 1) := by decide +kernel
theorem dL_law_770 : decode cL_law 770 = .ok (.iadd, 1) := by decide +kernel
theorem dL_law_771 : decode cL_law 771 = .ok (.iaload, 1) := by decide +kernel
theorem dL_law_772 : decode cL_law 772 = .ok (.aload_n 0, 1) := by decide +kernel
theorem dL_law_773 : decode cL_law 773 = .ok (.iload_n 3, 1) := by decide +kernel
theorem dL_law_774 : decode cL_law 774 = .ok (.iconst 2, 1) := by decide +kernel
theorem dL_law_775 : decode cL_law 775 = .ok (.iadd, 1) := by decide +kernel
theorem dL_law_776 : decode cL_law 776 = .ok (.iaload, 1) := by decide +kernel
theorem dL_law_777 : decode cL_law 777 = .ok (.aload_n 0, 1) := by decide +kernel
theorem dL_law_778 : decode cL_law 778 = .ok (.iload_n 3, 1) := by decide +kernel
theorem dL_law_779 : decode cL_law 779 = .ok (.iconst 3, 1) := by decide +kernel
theorem dL_law_780 : decode cL_law 780 = .ok (.iadd, 1) := by decide +kernel
theorem dL_law_781 : decode cL_law 781 = .ok (.iaload, 1) := by decide +kernel
theorem dL_law_782 : decode cL_law 782 = .ok (.aload_n 0, 1) := by decide +kernel
theorem dL_law_783 : decode cL_law 783 = .ok (.iload_n 3, 1) := by decide +kernel
theorem dL_law_784 : decode cL_law 784 = .ok (.iconst 4, 1) := by decide +kernel
theorem dL_law_785 : decode cL_law 785 = .ok (.iadd, 1) := by decide +kernel
theorem dL_law_786 : decode cL_law 786 = .ok (.iaload, 1) := by decide +kernel
theorem dL_law_787 : decode cL_law 787 = .ok (.invokevirtual 97, 3) := by decide +kernel
theorem dL_law_790 : decode cL_law 790 = .ok (.if_icmp .eq 28, 3) := by decide +kernel
theorem dL_law_793 : decode cL_law 793 = .ok (.iconst 0, 1) := by decide +kernel
theorem dL_law_794 : decode cL_law 794 = .ok (.ireturn, 1) := by decide +kernel
theorem dL_law_795 : decode cL_law 795 = .ok (.aload_n 1, 1) := by decide +kernel
theorem dL_law_796 : decode cL_law 796 = .ok (.aload_n 0, 1) := by decide +kernel
theorem dL_law_797 : decode cL_law 797 = .ok (.iload_n 3, 1) := by decide +kernel
theorem dL_law_798 : decode cL_law 798 = .ok (.iconst 1, 1) := by decide +kernel
theorem dL_law_799 : decode cL_law 799 = .ok (.iadd, 1) := by decide +kernel
theorem dL_law_800 : decode cL_law 800 = .ok (.iaload, 1) := by decide +kernel
theorem dL_law_801 : decode cL_law 801 = .ok (.invokevirtual 98, 3) := by decide +kernel
theorem dL_law_804 : decode cL_law 804 = .ok (.aload_n 2, 1) := by decide +kernel
theorem dL_law_805 : decode cL_law 805 = .ok (.aload_n 0, 1) := by decide +kernel
theorem dL_law_806 : decode cL_law 806 = .ok (.iload_n 3, 1) := by decide +kernel
theorem dL_law_807 : decode cL_law 807 = .ok (.iconst 1, 1) := by decide +kernel
theorem dL_law_808 : decode cL_law 808 = .ok (.iadd, 1) := by decide +kernel
theorem dL_law_809 : decode cL_law 809 = .ok (.iaload, 1) := by decide +kernel
theorem dL_law_810 : decode cL_law 810 = .ok (.invokevirtual 101, 3) := by decide +kernel
theorem dL_law_813 : decode cL_law 813 = .ok (.if_icmp .eq 5, 3) := by decide +kernel
theorem dL_law_816 : decode cL_law 816 = .ok (.iconst 0, 1) := by decide +kernel
theorem dL_law_817 : decode cL_law 817 = .ok (.ireturn, 1) := by decide +kernel
theorem dL_law_818 : decode cL_law 818 = .ok (.iinc 3 6, 3) := by decide +kernel
theorem dL_law_821 : decode cL_law 821 = .ok (.goto (-793), 3) := by decide +kernel
theorem dL_law_824 : decode cL_law 824 = .ok (.iconst 1, 1) := by decide +kernel
theorem dL_law_825 : decode cL_law 825 = .ok (.ireturn, 1) := by decide +kernel
def d_L_law_575 (L : Nat) (xs : Nat → Int32) (x1 : Nat) (x2 : Nat) (x3 : Int32) (t0 : Int32) (t1 : Int32) (t2 : Nat) (t3 : Int32) (G : Hp) (k28 : Nat → Nat → Int32 → Hp → Option (Int32 × Hp)) : Option (Int32 × Hp) :=
  mP G <|
  gd (ix (x3 + 3) L) <|
  gd (ix (x3 + 4) L) <|
  gd (hc G t2 = 10) <|
  b2 (d_X9_way t2 t1 t0 (xs (x3 + 3).toNatClampNeg) (xs (x3 + 4).toNatClampNeg) G) fun v5 G6 =>
  gd (hn G6 = hn G ∧ hs G6 = hs G) <|
  if t3 = v5 then
    k28 x1 x2 (x3 + 6) G6
  else
    some (0, G6)
def d_L_law_543 (L : Nat) (xs : Nat → Int32) (x1 : Nat) (x2 : Nat) (x3 : Int32) (t0 : Int32) (t1 : Int32) (t2 : Nat) (G : Hp) (k28 : Nat → Nat → Int32 → Hp → Option (Int32 × Hp)) : Option (Int32 × Hp) :=
  mP G <|
  gd (ix (x3 + 3) L) <|
  gd (ix (x3 + 4) L) <|
  gd (hc G t2 = 9) <|
  b2 (d_X8_way t2 t1 t0 (xs (x3 + 3).toNatClampNeg) (xs (x3 + 4).toNatClampNeg) G) fun v5 G6 =>
  gd (hn G6 = hn G ∧ hs G6 = hs G) <|
  gd (ix (x3 + 1) L) <|
  gd (ix (x3 + 2) L) <|
  if (xs (x3 + 2).toNatClampNeg) = 0 then
    d_L_law_575 L xs x1 x2 x3 0 (xs (x3 + 1).toNatClampNeg) x2 v5 G6 k28
  else
    d_L_law_575 L xs x1 x2 x3 1 (xs (x3 + 1).toNatClampNeg) x2 v5 G6 k28
def d_L_law_28 (L : Nat) (xs : Nat → Int32) : Nat → Nat → Nat → Int32 → Hp → Option (Int32 × Hp)
  | 0, _, _, _, _ => none
  | n_ + 1, x1, x2, x3, G =>
    mP G <|
    if ((nI L) - 6) < x3 then
      some (1, G)
    else
      gd (ix x3 L) <|
      if ((xs x3.toNatClampNeg) &&& 31) = 0 then
        gd (ix (x3 + 1) L) <|
        gd (ix (x3 + 2) L) <|
        gd (ix (x3 + 3) L) <|
        gd (ix (x3 + 4) L) <|
        gd (hc G x1 = 9) <|
        b2 (d_X8_plug x1 (xs (x3 + 1).toNatClampNeg) (xs (x3 + 2).toNatClampNeg) (xs (x3 + 3).toNatClampNeg) (xs (x3 + 4).toNatClampNeg) G) fun v10 G11 =>
        gd (hn G ≤ hn G11 ∧ hs G ≤ hs G11) <|
        mP G11 <|
        gd (ix (x3 + 1) L) <|
        gd (ix (x3 + 2) L) <|
        gd (ix (x3 + 3) L) <|
        gd (ix (x3 + 4) L) <|
        gd (hc G11 x2 = 10) <|
        b2 (d_X9_plug x2 (xs (x3 + 1).toNatClampNeg) (xs (x3 + 2).toNatClampNeg) (xs (x3 + 3).toNatClampNeg) (xs (x3 + 4).toNatClampNeg) G11) fun v19 G20 =>
        gd (hn G20 = hn G11 ∧ hs G20 = hs G11) <|
        if v10 = v19 then
          d_L_law_28 L xs n_ x1 x2 (x3 + 6) G20
        else
          some (0, G20)
      else
      if ((xs x3.toNatClampNeg) &&& 31) = 1 then
        gd (ix (x3 + 1) L) <|
        gd (ix (x3 + 2) L) <|
        gd (hc G x1 = 9) <|
        b2 (d_X8_host x1 (xs (x3 + 1).toNatClampNeg) (xs (x3 + 2).toNatClampNeg) G) fun v27 G28 =>
        gd (hn G ≤ hn G28 ∧ hs G ≤ hs G28) <|
        mP G28 <|
        gd (ix (x3 + 1) L) <|
        gd (ix (x3 + 2) L) <|
        gd (hc G28 x2 = 10) <|
        b2 (d_X9_host x2 (xs (x3 + 1).toNatClampNeg) (xs (x3 + 2).toNatClampNeg) G28) fun v34 G35 =>
        gd (hn G35 = hn G28 ∧ hs G35 = hs G28) <|
        if v27 = v34 then
          d_L_law_28 L xs n_ x1 x2 (x3 + 6) G35
        else
          some (0, G35)
      else
      if ((xs x3.toNatClampNeg) &&& 31) = 2 then
        gd (ix (x3 + 1) L) <|
        gd (ix (x3 + 2) L) <|
        gd (hc G x1 = 9) <|
        b2 (d_X8_meet x1 (xs (x3 + 1).toNatClampNeg) (xs (x3 + 2).toNatClampNeg) G) fun v42 G43 =>
        gd (hn G43 = hn G ∧ hs G43 = hs G) <|
        gd (ix (x3 + 1) L) <|
        gd (ix (x3 + 2) L) <|
        gd (hc G43 x2 = 10) <|
        b2 (d_X9_meet x2 (xs (x3 + 1).toNatClampNeg) (xs (x3 + 2).toNatClampNeg) G43) fun v49 G50 =>
        gd (hn G50 = hn G43 ∧ hs G50 = hs G43) <|
        if v42 = v49 then
          d_L_law_28 L xs n_ x1 x2 (x3 + 6) G50
        else
          some (0, G50)
      else
      if ((xs x3.toNatClampNeg) &&& 31) = 3 then
        gd (ix (x3 + 1) L) <|
        gd (hc G x1 = 9) <|
        b2 (d_X8_cut x1 (xs (x3 + 1).toNatClampNeg) G) fun v56 G57 =>
        gd (hn G57 = hn G ∧ hs G57 = hs G) <|
        gd (ix (x3 + 1) L) <|
        gd (hc G57 x2 = 10) <|
        b2 (d_X9_cut x2 (xs (x3 + 1).toNatClampNeg) G57) fun v62 G63 =>
        gd (hn G63 = hn G57 ∧ hs G63 = hs G57) <|
        if v56 = v62 then
          d_L_law_28 L xs n_ x1 x2 (x3 + 6) G63
        else
          some (0, G63)
      else
      if ((xs x3.toNatClampNeg) &&& 31) = 4 then
        gd (ix (x3 + 1) L) <|
        gd (hc G x1 = 9) <|
        b2 (d_X8_mend x1 (xs (x3 + 1).toNatClampNeg) G) fun v69 G70 =>
        gd (hn G70 = hn G ∧ hs G70 = hs G) <|
        gd (ix (x3 + 1) L) <|
        gd (hc G70 x2 = 10) <|
        b2 (d_X9_mend x2 (xs (x3 + 1).toNatClampNeg) G70) fun v75 G76 =>
        gd (hn G76 = hn G70 ∧ hs G76 = hs G70) <|
        if v69 = v75 then
          d_L_law_28 L xs n_ x1 x2 (x3 + 6) G76
        else
          some (0, G76)
      else
      if ((xs x3.toNatClampNeg) &&& 31) = 5 then
        gd (ix (x3 + 1) L) <|
        gd (ix (x3 + 2) L) <|
        gd (hc G x1 = 9) <|
        b2 (d_X8_join x1 (xs (x3 + 1).toNatClampNeg) (xs (x3 + 2).toNatClampNeg) G) fun v83 G84 =>
        gd (hn G84 = hn G ∧ hs G84 = hs G) <|
        gd (ix (x3 + 1) L) <|
        gd (ix (x3 + 2) L) <|
        gd (hc G84 x2 = 10) <|
        b2 (d_X9_join x2 (xs (x3 + 1).toNatClampNeg) (xs (x3 + 2).toNatClampNeg) G84) fun v90 G91 =>
        gd (hn G91 = hn G84 ∧ hs G91 = hs G84) <|
        if v83 = v90 then
          d_L_law_28 L xs n_ x1 x2 (x3 + 6) G91
        else
          some (0, G91)
      else
      if ((xs x3.toNatClampNeg) &&& 31) = 6 then
        gd (ix (x3 + 1) L) <|
        gd (ix (x3 + 2) L) <|
        gd (hc G x1 = 9) <|
        b2 (d_X8_leave x1 (xs (x3 + 1).toNatClampNeg) (xs (x3 + 2).toNatClampNeg) G) fun v98 G99 =>
        gd (hn G99 = hn G ∧ hs G99 = hs G) <|
        gd (ix (x3 + 1) L) <|
        gd (ix (x3 + 2) L) <|
        gd (hc G99 x2 = 10) <|
        b2 (d_X9_leave x2 (xs (x3 + 1).toNatClampNeg) (xs (x3 + 2).toNatClampNeg) G99) fun v105 G106 =>
        gd (hn G106 = hn G99 ∧ hs G106 = hs G99) <|
        if v98 = v105 then
          d_L_law_28 L xs n_ x1 x2 (x3 + 6) G106
        else
          some (0, G106)
      else
      if ((xs x3.toNatClampNeg) &&& 31) = 7 then
        gd (ix (x3 + 1) L) <|
        gd (ix (x3 + 2) L) <|
        gd (hc G x1 = 9) <|
        b2 (d_X8_send x1 (xs (x3 + 1).toNatClampNeg) (xs (x3 + 2).toNatClampNeg) G) fun v113 G114 =>
        gd (hn G114 = hn G ∧ hs G114 = hs G) <|
        gd (ix (x3 + 1) L) <|
        gd (ix (x3 + 2) L) <|
        gd (hc G114 x2 = 10) <|
        b2 (d_X9_send x2 (xs (x3 + 1).toNatClampNeg) (xs (x3 + 2).toNatClampNeg) G114) fun v120 G121 =>
        gd (hn G121 = hn G114 ∧ hs G121 = hs G114) <|
        if v113 = v120 then
          d_L_law_28 L xs n_ x1 x2 (x3 + 6) G121
        else
          some (0, G121)
      else
      if ((xs x3.toNatClampNeg) &&& 31) = 8 then
        gd (ix (x3 + 1) L) <|
        gd (ix (x3 + 2) L) <|
        gd (hc G x1 = 9) <|
        b2 (d_X8_lose x1 (xs (x3 + 1).toNatClampNeg) (xs (x3 + 2).toNatClampNeg) G) fun v128 G129 =>
        gd (hn G129 = hn G ∧ hs G129 = hs G) <|
        gd (ix (x3 + 1) L) <|
        gd (ix (x3 + 2) L) <|
        gd (hc G129 x2 = 10) <|
        b2 (d_X9_lose x2 (xs (x3 + 1).toNatClampNeg) (xs (x3 + 2).toNatClampNeg) G129) fun v135 G136 =>
        gd (hn G136 = hn G129 ∧ hs G136 = hs G129) <|
        if v128 = v135 then
          d_L_law_28 L xs n_ x1 x2 (x3 + 6) G136
        else
          some (0, G136)
      else
      if ((xs x3.toNatClampNeg) &&& 31) = 9 then
        gd (ix (x3 + 1) L) <|
        gd (hc G x1 = 9) <|
        b2 (d_X8_tick x1 (xs (x3 + 1).toNatClampNeg) G) fun v142 G143 =>
        gd (hn G143 = hn G ∧ hs G143 = hs G) <|
        gd (ix (x3 + 1) L) <|
        gd (hc G143 x2 = 10) <|
        b2 (d_X9_tick x2 (xs (x3 + 1).toNatClampNeg) G143) fun v148 G149 =>
        gd (hn G149 = hn G143 ∧ hs G149 = hs G143) <|
        if v142 = v148 then
          d_L_law_28 L xs n_ x1 x2 (x3 + 6) G149
        else
          some (0, G149)
      else
      if ((xs x3.toNatClampNeg) &&& 31) = 10 then
        gd (ix (x3 + 1) L) <|
        gd (ix (x3 + 2) L) <|
        gd (hc G x1 = 9) <|
        bo (d_X8_got x1 (xs (x3 + 1).toNatClampNeg) (xs (x3 + 2).toNatClampNeg) G) fun v156 =>
        gd (ix (x3 + 1) L) <|
        gd (ix (x3 + 2) L) <|
        gd (hc G x2 = 10) <|
        bo (d_X9_got x2 (xs (x3 + 1).toNatClampNeg) (xs (x3 + 2).toNatClampNeg) G) fun v161 =>
        if v156 = v161 then
          d_L_law_28 L xs n_ x1 x2 (x3 + 6) G
        else
          some (0, G)
      else
      if ((xs x3.toNatClampNeg) &&& 31) = 11 then
        gd (ix (x3 + 1) L) <|
        gd (ix (x3 + 2) L) <|
        gd (ix (x3 + 3) L) <|
        gd (hc G x1 = 9) <|
        bo (d_X8_frame x1 (xs (x3 + 1).toNatClampNeg) (xs (x3 + 2).toNatClampNeg) (xs (x3 + 3).toNatClampNeg) G) fun v168 =>
        gd (ix (x3 + 1) L) <|
        gd (ix (x3 + 2) L) <|
        gd (ix (x3 + 3) L) <|
        gd (hc G x2 = 10) <|
        bo (d_X9_frame x2 (xs (x3 + 1).toNatClampNeg) (xs (x3 + 2).toNatClampNeg) (xs (x3 + 3).toNatClampNeg) G) fun v174 =>
        if v168 = v174 then
          d_L_law_28 L xs n_ x1 x2 (x3 + 6) G
        else
          some (0, G)
      else
      if ((xs x3.toNatClampNeg) &&& 31) = 12 then
        gd (ix (x3 + 1) L) <|
        gd (ix (x3 + 2) L) <|
        if (xs (x3 + 2).toNatClampNeg) = 0 then
          d_L_law_543 L xs x1 x2 x3 0 (xs (x3 + 1).toNatClampNeg) x1 G (fun y0 y1 y2 Gy => d_L_law_28 L xs n_ y0 y1 y2 Gy)
        else
          d_L_law_543 L xs x1 x2 x3 1 (xs (x3 + 1).toNatClampNeg) x1 G (fun y0 y1 y2 Gy => d_L_law_28 L xs n_ y0 y1 y2 Gy)
      else
      if ((xs x3.toNatClampNeg) &&& 31) = 13 then
        gd (ix (x3 + 1) L) <|
        gd (ix (x3 + 2) L) <|
        gd (ix (x3 + 3) L) <|
        gd (hc G x1 = 9) <|
        bo (d_X8_port x1 (xs (x3 + 1).toNatClampNeg) (xs (x3 + 2).toNatClampNeg) (xs (x3 + 3).toNatClampNeg) G) fun v184 =>
        gd (ix (x3 + 1) L) <|
        gd (ix (x3 + 2) L) <|
        gd (ix (x3 + 3) L) <|
        gd (hc G x2 = 10) <|
        bo (d_X9_port x2 (xs (x3 + 1).toNatClampNeg) (xs (x3 + 2).toNatClampNeg) (xs (x3 + 3).toNatClampNeg) G) fun v190 =>
        if v184 = v190 then
          d_L_law_28 L xs n_ x1 x2 (x3 + 6) G
        else
          some (0, G)
      else
      if ((xs x3.toNatClampNeg) &&& 31) = 14 then
        gd (ix (x3 + 1) L) <|
        gd (ix (x3 + 2) L) <|
        gd (ix (x3 + 3) L) <|
        gd (hc G x1 = 9) <|
        bo (d_X8_members x1 (xs (x3 + 1).toNatClampNeg) (xs (x3 + 2).toNatClampNeg) (xs (x3 + 3).toNatClampNeg) G) fun v197 =>
        gd (ix (x3 + 1) L) <|
        gd (ix (x3 + 2) L) <|
        gd (ix (x3 + 3) L) <|
        gd (hc G x2 = 10) <|
        bo (d_X9_members x2 (xs (x3 + 1).toNatClampNeg) (xs (x3 + 2).toNatClampNeg) (xs (x3 + 3).toNatClampNeg) G) fun v203 =>
        if v197 = v203 then
          d_L_law_28 L xs n_ x1 x2 (x3 + 6) G
        else
          some (0, G)
      else
      if ((xs x3.toNatClampNeg) &&& 31) = 15 then
        gd (ix (x3 + 1) L) <|
        gd (ix (x3 + 2) L) <|
        gd (ix (x3 + 3) L) <|
        gd (ix (x3 + 4) L) <|
        gd (ix (x3 + 5) L) <|
        gd (hc G x1 = 9) <|
        b2 (d_X8_branch x1 (xs (x3 + 1).toNatClampNeg) (xs (x3 + 2).toNatClampNeg) (xs (x3 + 3).toNatClampNeg) (xs (x3 + 4).toNatClampNeg) (xs (x3 + 5).toNatClampNeg) G) fun v212 G213 =>
        gd (hn G213 = hn G ∧ hs G213 = hs G) <|
        gd (ix (x3 + 1) L) <|
        gd (ix (x3 + 2) L) <|
        gd (ix (x3 + 3) L) <|
        gd (ix (x3 + 4) L) <|
        gd (ix (x3 + 5) L) <|
        gd (hc G213 x2 = 10) <|
        b2 (d_X9_branch x2 (xs (x3 + 1).toNatClampNeg) (xs (x3 + 2).toNatClampNeg) (xs (x3 + 3).toNatClampNeg) (xs (x3 + 4).toNatClampNeg) (xs (x3 + 5).toNatClampNeg) G213) fun v222 G223 =>
        gd (hn G223 = hn G213 ∧ hs G223 = hs G213) <|
        if v212 = v222 then
          d_L_law_28 L xs n_ x1 x2 (x3 + 6) G223
        else
          some (0, G223)
      else
      if ((xs x3.toNatClampNeg) &&& 31) = 16 then
        gd (ix (x3 + 1) L) <|
        gd (ix (x3 + 2) L) <|
        gd (ix (x3 + 3) L) <|
        gd (ix (x3 + 4) L) <|
        gd (hc G x1 = 9) <|
        b2 (d_X8_tree x1 (xs (x3 + 1).toNatClampNeg) (xs (x3 + 2).toNatClampNeg) (xs (x3 + 3).toNatClampNeg) (xs (x3 + 4).toNatClampNeg) G) fun v232 G233 =>
        gd (hn G233 = hn G ∧ hs G233 = hs G) <|
        gd (ix (x3 + 1) L) <|
        gd (ix (x3 + 2) L) <|
        gd (ix (x3 + 3) L) <|
        gd (ix (x3 + 4) L) <|
        gd (hc G233 x2 = 10) <|
        b2 (d_X9_tree x2 (xs (x3 + 1).toNatClampNeg) (xs (x3 + 2).toNatClampNeg) (xs (x3 + 3).toNatClampNeg) (xs (x3 + 4).toNatClampNeg) G233) fun v241 G242 =>
        gd (hn G242 = hn G233 ∧ hs G242 = hs G233) <|
        if v232 = v241 then
          d_L_law_28 L xs n_ x1 x2 (x3 + 6) G242
        else
          some (0, G242)
      else
      if ((xs x3.toNatClampNeg) &&& 31) = 17 then
        gd (ix (x3 + 1) L) <|
        gd (hc G x1 = 9) <|
        bo (d_X8_count x1 (xs (x3 + 1).toNatClampNeg) G) fun v248 =>
        gd (ix (x3 + 1) L) <|
        gd (hc G x2 = 10) <|
        bo (d_X9_count x2 (xs (x3 + 1).toNatClampNeg) G) fun v252 =>
        if v248 = v252 then
          d_L_law_28 L xs n_ x1 x2 (x3 + 6) G
        else
          some (0, G)
      else
      d_L_law_28 L xs n_ x1 x2 (x3 + 6) G
def d_L_law (L : Nat) (xs : Nat → Int32) (G : Hp) : Option (Int32 × Hp) :=
  mP G <|
  bd (hn G) fun q1 =>
  bd (nC G 9 0 4) fun G2 =>
  mP G2 <|
  bo (d_L_cell L xs 0) fun v3 =>
  gd (hc G2 q1 = 9) <|
  bo (d_X8_init q1 v3 G2) fun G7 =>
  gd (hn G2 ≤ hn G7 ∧ hs G2 ≤ hs G7) <|
  mP G7 <|
  bd (hn G7) fun q9 =>
  bd (nC G7 10 0 40) fun G10 =>
  mP G10 <|
  bo (d_L_cell L xs 0) fun v11 =>
  gd (hc G10 q9 = 10) <|
  bo (d_X9_init q9 v11 G10) fun G15 =>
  gd (hn G10 ≤ hn G15 ∧ hs G10 ≤ hs G15) <|
  mP G15 <|
  d_L_law_28 L xs FU q1 q9 1 G15
section
variable {p : Program} {l : Launch} {e : Env} {s : State} {m : MethodId} {args : Array Value} {below : List Frame} {meth : Method} {c : Code} {b0 : Nat} {D : va_G} {E : Nat → ClassId}
set_option maxHeartbeats 8000000 in
set_option maxRecDepth 100000 in
theorem k_L_law_575 {b L : Nat} {xs : Nat → Int32} (C : Cx p s m #[Value.ref b] meth c RL cL_law 4 (some .boolean) b0 D E) (hX : va_X b L xs s s.heap) (hbl : b < b0) (hB0 : b0 = s.heap.size) {GG : Hp} {n0 s0 : Nat} (hfin : hn GG - n0 ≤ 600000 ∧ hs GG - s0 ≤ 7302250) {k28 : Nat → Nat → Int32 → Hp → Option (Int32 × Hp)} (hk28 : ∀ (y0 : Nat) (y1 : Nat) (y2 : Int32) (Gy : Hp) (H1 : Heap) (locs1 : List Loc) (ls1 : Array Slot), y0 ≠ 0 → y1 ≠ 0 → lv_has ls1 4 [(0, .ref b), (1, .ref y0), (2, .ref y1), (3, .int y2)] → Rp b0 D E Gy H1 → SS b0 s H1 locs1 → b0 ≤ hn Gy → (n0 ≤ hn Gy ∧ s0 ≤ hs Gy) → k28 y0 y1 y2 Gy = some (1, GG) → W p l e room_1 s m #[Value.ref b] below meth c H1 locs1 (hn Gy - n0) (hs Gy - s0) (lw_Z below #[Value.ref b] s) (F0 m 28 ls1 [])) {x1 : Nat} {x2 : Nat} {x3 : Int32} {t0 : Int32} {t1 : Int32} {t2 : Nat} {t3 : Int32} {G : Hp} {ls : Array Slot} {H : Heap} {locs : List Loc} : x1 ≠ 0 → x2 ≠ 0 → lv_has ls 4 [(0, .ref b), (1, .ref x1), (2, .ref x2), (3, .int x3)] → Rp b0 D E G H → SS b0 s H locs → b0 ≤ hn G → (n0 ≤ hn G ∧ s0 ≤ hs G) → d_L_law_575 L xs x1 x2 x3 t0 t1 t2 t3 G k28 = some (1, GG) → W p l e room_1 s m #[Value.ref b] below meth c H locs (hn G - n0) (hs G - s0) (lw_Z below #[Value.ref b] s) (F0 m 575 ls [.int t0, .int t1, rv t2, .int t3]) := by
  intro hq1 hq2 hL hR hS hB hZ hd
  unfold d_L_law_575 at hd
  obtain ⟨hM, hd⟩ := mP_ex hd
  have hx := C.1
  have hb := C.2.1
  have hpos : 0 < b0 := C.2.2.2.2.2.2.2.2
  refine lv_aload_n hx hb dL_law_575 rfl (lv_at hL 0 rfl) ?_
  refine lv_iload_n hx hb dL_law_576 rfl (lv_at hL 3 rfl) ?_
  refine lv_iconst (v := 3) hx hb dL_law_577 (by decide) ?_
  refine lv_iadd hx hb dL_law_578 ?_
  obtain ⟨g1, hd⟩ := gd_ex hd
  refine r_sld C hX hbl dL_law_579 hS g1 ?_
  refine lv_aload_n hx hb dL_law_580 rfl (lv_at hL 0 rfl) ?_
  refine lv_iload_n hx hb dL_law_581 rfl (lv_at hL 3 rfl) ?_
  refine lv_iconst (v := 4) hx hb dL_law_582 (by decide) ?_
  refine lv_iadd hx hb dL_law_583 ?_
  obtain ⟨g2, hd⟩ := gd_ex hd
  refine r_sld C hX hbl dL_law_584 hS g2 ?_
  obtain ⟨g3, hd⟩ := gd_ex hd
  obtain ⟨v5, G6, h4, hd⟩ := b2_ex hd
  obtain ⟨g7, hd⟩ := gd_ex hd
  refine r_callV (a := t2) (ci := 9) (As := [.int t1, .int t0, .int (xs (x3 + 3).toNatClampNeg), .int (xs (x3 + 4).toNatClampNeg)]) C (ct_X9_way h4) mf_X9_way ml_L_79 mv_X9_way rfl ⟨Nat.le_of_ble_eq_true rfl, Nat.le_of_ble_eq_true rfl⟩ dL_law_585 hL.1 rfl hR hS g3 ⟨by show hn G - n0 ≤ 600000; omega, by show hs G - s0 ≤ 7302250; omega⟩ (cat_le [.inl t3] (Nat.le_of_ble_eq_true rfl)) (fun H locs hR hS => ?_)
  refine W_st (st2 := [.int v5, .int t3]) rfl ?_
  refine W_cs (c2 := hn G6 - n0) (s2 := hs G6 - s0) (by first | rfl | omega) (by first | rfl | omega) ?_
  replace hB : b0 ≤ hn G6 := by omega
  replace hZ : n0 ≤ hn G6 ∧ s0 ≤ hs G6 := by omega
  replace hM : hn G6 ≤ hn GG ∧ hs G6 ≤ hs GG := by omega
  refine lv_icmp_eq (tgt := 818) hx hb dL_law_588 (by decide) (fun c8 => ?_) (fun c8 => ?_)
  · rw [if_pos c8] at hd
    refine lv_iinc (lv' := [(3, .int (x3 + 6)), (0, .ref b), (1, .ref x1), (2, .ref x2)]) (k := 3) hx hb dL_law_818 hL rfl rfl (by decide) rfl (fun ls hL => ?_)
    refine lv_goto (tgt := 28) hx hb dL_law_821 (by decide) ?_
    exact hk28 _ _ _ _ _ _ _ hq1 hq2 (lv_sub hL [1, 2, 3, 0] rfl) hR hS hB hZ hd
  · rw [if_neg c8] at hd
    refine lv_iconst (v := 0) hx hb dL_law_591 (by decide) ?_
    exact absurd (Prod.mk.inj (Option.some.inj hd)).1 (by decide)
set_option maxHeartbeats 8000000 in
set_option maxRecDepth 100000 in
theorem k_L_law_543 {b L : Nat} {xs : Nat → Int32} (C : Cx p s m #[Value.ref b] meth c RL cL_law 4 (some .boolean) b0 D E) (hX : va_X b L xs s s.heap) (hbl : b < b0) (hB0 : b0 = s.heap.size) {GG : Hp} {n0 s0 : Nat} (hfin : hn GG - n0 ≤ 600000 ∧ hs GG - s0 ≤ 7302250) {k28 : Nat → Nat → Int32 → Hp → Option (Int32 × Hp)} (hk28 : ∀ (y0 : Nat) (y1 : Nat) (y2 : Int32) (Gy : Hp) (H1 : Heap) (locs1 : List Loc) (ls1 : Array Slot), y0 ≠ 0 → y1 ≠ 0 → lv_has ls1 4 [(0, .ref b), (1, .ref y0), (2, .ref y1), (3, .int y2)] → Rp b0 D E Gy H1 → SS b0 s H1 locs1 → b0 ≤ hn Gy → (n0 ≤ hn Gy ∧ s0 ≤ hs Gy) → k28 y0 y1 y2 Gy = some (1, GG) → W p l e room_1 s m #[Value.ref b] below meth c H1 locs1 (hn Gy - n0) (hs Gy - s0) (lw_Z below #[Value.ref b] s) (F0 m 28 ls1 [])) {x1 : Nat} {x2 : Nat} {x3 : Int32} {t0 : Int32} {t1 : Int32} {t2 : Nat} {G : Hp} {ls : Array Slot} {H : Heap} {locs : List Loc} : x1 ≠ 0 → x2 ≠ 0 → lv_has ls 4 [(0, .ref b), (1, .ref x1), (2, .ref x2), (3, .int x3)] → Rp b0 D E G H → SS b0 s H locs → b0 ≤ hn G → (n0 ≤ hn G ∧ s0 ≤ hs G) → d_L_law_543 L xs x1 x2 x3 t0 t1 t2 G k28 = some (1, GG) → W p l e room_1 s m #[Value.ref b] below meth c H locs (hn G - n0) (hs G - s0) (lw_Z below #[Value.ref b] s) (F0 m 543 ls [.int t0, .int t1, rv t2]) := by
  intro hq1 hq2 hL hR hS hB hZ hd
  unfold d_L_law_543 at hd
  obtain ⟨hM, hd⟩ := mP_ex hd
  have hx := C.1
  have hb := C.2.1
  have hpos : 0 < b0 := C.2.2.2.2.2.2.2.2
  refine lv_aload_n hx hb dL_law_543 rfl (lv_at hL 0 rfl) ?_
  refine lv_iload_n hx hb dL_law_544 rfl (lv_at hL 3 rfl) ?_
  refine lv_iconst (v := 3) hx hb dL_law_545 (by decide) ?_
  refine lv_iadd hx hb dL_law_546 ?_
  obtain ⟨g1, hd⟩ := gd_ex hd
  refine r_sld C hX hbl dL_law_547 hS g1 ?_
  refine lv_aload_n hx hb dL_law_548 rfl (lv_at hL 0 rfl) ?_
  refine lv_iload_n hx hb dL_law_549 rfl (lv_at hL 3 rfl) ?_
  refine lv_iconst (v := 4) hx hb dL_law_550 (by decide) ?_
  refine lv_iadd hx hb dL_law_551 ?_
  obtain ⟨g2, hd⟩ := gd_ex hd
  refine r_sld C hX hbl dL_law_552 hS g2 ?_
  obtain ⟨g3, hd⟩ := gd_ex hd
  obtain ⟨v5, G6, h4, hd⟩ := b2_ex hd
  obtain ⟨g7, hd⟩ := gd_ex hd
  refine r_callV (a := t2) (ci := 8) (As := [.int t1, .int t0, .int (xs (x3 + 3).toNatClampNeg), .int (xs (x3 + 4).toNatClampNeg)]) C (ct_X8_way h4) mf_X8_way ml_L_75 mv_X8_way rfl ⟨Nat.le_of_ble_eq_true rfl, Nat.le_of_ble_eq_true rfl⟩ dL_law_553 hL.1 rfl hR hS g3 ⟨by show hn G - n0 ≤ 600000; omega, by show hs G - s0 ≤ 7302250; omega⟩ (cat_le [] (Nat.le_of_ble_eq_true rfl)) (fun H locs hR hS => ?_)
  refine W_st (st2 := [.int v5]) rfl ?_
  refine W_cs (c2 := hn G6 - n0) (s2 := hs G6 - s0) (by first | rfl | omega) (by first | rfl | omega) ?_
  replace hB : b0 ≤ hn G6 := by omega
  replace hZ : n0 ≤ hn G6 ∧ s0 ≤ hs G6 := by omega
  replace hM : hn G6 ≤ hn GG ∧ hs G6 ≤ hs GG := by omega
  refine lv_aload_n hx hb dL_law_556 rfl (lv_at hL 2 rfl) ?_
  rw [← rv_ne hq2]
  refine lv_aload_n hx hb dL_law_557 rfl (lv_at hL 0 rfl) ?_
  refine lv_iload_n hx hb dL_law_558 rfl (lv_at hL 3 rfl) ?_
  refine lv_iconst (v := 1) hx hb dL_law_559 (by decide) ?_
  refine lv_iadd hx hb dL_law_560 ?_
  obtain ⟨g8, hd⟩ := gd_ex hd
  refine r_sld C hX hbl dL_law_561 hS g8 ?_
  refine lv_aload_n hx hb dL_law_562 rfl (lv_at hL 0 rfl) ?_
  refine lv_iload_n hx hb dL_law_563 rfl (lv_at hL 3 rfl) ?_
  refine lv_iconst (v := 2) hx hb dL_law_564 (by decide) ?_
  refine lv_iadd hx hb dL_law_565 ?_
  obtain ⟨g9, hd⟩ := gd_ex hd
  refine r_sld C hX hbl dL_law_566 hS g9 ?_
  refine lv_if_eq (tgt := 574) hx hb dL_law_567 (by decide) (fun c10 => ?_) (fun c10 => ?_)
  · rw [if_pos c10] at hd
    refine lv_iconst (v := 0) hx hb dL_law_574 (by decide) ?_
    exact k_L_law_575 C hX hbl hB0 hfin hk28 hq1 hq2 (lv_sub hL [0, 1, 2, 3] rfl) hR hS hB hZ hd
  · rw [if_neg c10] at hd
    refine lv_iconst (v := 1) hx hb dL_law_570 (by decide) ?_
    refine lv_goto (tgt := 575) hx hb dL_law_571 (by decide) ?_
    exact k_L_law_575 C hX hbl hB0 hfin hk28 hq1 hq2 (lv_sub hL [0, 1, 2, 3] rfl) hR hS hB hZ hd
set_option maxHeartbeats 8000000 in
set_option maxRecDepth 100000 in
theorem k_L_law_28 {b L : Nat} {xs : Nat → Int32} (C : Cx p s m #[Value.ref b] meth c RL cL_law 4 (some .boolean) b0 D E) (hX : va_X b L xs s s.heap) (hbl : b < b0) (hB0 : b0 = s.heap.size) {GG : Hp} {n0 s0 : Nat} (hfin : hn GG - n0 ≤ 600000 ∧ hs GG - s0 ≤ 7302250) : ∀ (n_ : Nat) {x1 : Nat} {x2 : Nat} {x3 : Int32} {G : Hp} {ls : Array Slot} {H : Heap} {locs : List Loc}, x1 ≠ 0 → x2 ≠ 0 → lv_has ls 4 [(0, .ref b), (1, .ref x1), (2, .ref x2), (3, .int x3)] → Rp b0 D E G H → SS b0 s H locs → b0 ≤ hn G → (n0 ≤ hn G ∧ s0 ≤ hs G) → d_L_law_28 L xs n_ x1 x2 x3 G = some (1, GG) → W p l e room_1 s m #[Value.ref b] below meth c H locs (hn G - n0) (hs G - s0) (lw_Z below #[Value.ref b] s) (F0 m 28 ls []) := by
  intro n_
  induction n_ with
  | zero =>
    intro x1 x2 x3 G ls H locs hq1 hq2 hL hR hS hB hZ hd
    cases (show (none : Option _) = some _ from hd)
  | succ n_ ih =>
    intro x1 x2 x3 G ls H locs hq1 hq2 hL hR hS hB hZ hd
    rw [d_L_law_28.eq_2] at hd
    obtain ⟨hM, hd⟩ := mP_ex hd
    have hx := C.1
    have hb := C.2.1
    have hpos : 0 < b0 := C.2.2.2.2.2.2.2.2
    refine lv_iload_n hx hb dL_law_28 rfl (lv_at hL 3 rfl) ?_
    refine lv_aload_n hx hb dL_law_29 rfl (lv_at hL 0 rfl) ?_
    refine r_slen C hX hbl dL_law_30 hS ?_
    refine lv_bipush (v := 6) hx hb dL_law_31 (by decide) ?_
    refine lv_isub hx hb dL_law_33 ?_
    refine lv_icmp_gt (tgt := 824) hx hb dL_law_34 (by decide) (fun c1 => ?_) (fun c1 => ?_)
    · rw [if_pos c1] at hd
      refine lv_iconst (v := 1) hx hb dL_law_824 (by decide) ?_
      cases hd
      exact law_end C hS hB0 hfin dL_law_825
    · rw [if_neg c1] at hd
      refine lv_aload_n hx hb dL_law_37 rfl (lv_at hL 0 rfl) ?_
      refine lv_iload_n hx hb dL_law_38 rfl (lv_at hL 3 rfl) ?_
      obtain ⟨g2, hd⟩ := gd_ex hd
      refine r_sld C hX hbl dL_law_39 hS g2 ?_
      refine lv_bipush (v := 31) hx hb dL_law_40 (by decide) ?_
      refine lv_iand hx hb dL_law_42 ?_
      by_cases c3_0 : ((xs x3.toNatClampNeg) &&& 31) = 0
      · rw [if_pos c3_0] at hd
        rw [c3_0]
        refine lv_tableIn (tgt := 128) hx hb dL_law_43 (by decide) (by decide) rfl (by decide) ?_
        refine lv_aload_n hx hb dL_law_128 rfl (lv_at hL 1 rfl) ?_
        rw [← rv_ne hq1]
        refine lv_aload_n hx hb dL_law_129 rfl (lv_at hL 0 rfl) ?_
        refine lv_iload_n hx hb dL_law_130 rfl (lv_at hL 3 rfl) ?_
        refine lv_iconst (v := 1) hx hb dL_law_131 (by decide) ?_
        refine lv_iadd hx hb dL_law_132 ?_
        obtain ⟨g4, hd⟩ := gd_ex hd
        refine r_sld C hX hbl dL_law_133 hS g4 ?_
        refine lv_aload_n hx hb dL_law_134 rfl (lv_at hL 0 rfl) ?_
        refine lv_iload_n hx hb dL_law_135 rfl (lv_at hL 3 rfl) ?_
        refine lv_iconst (v := 2) hx hb dL_law_136 (by decide) ?_
        refine lv_iadd hx hb dL_law_137 ?_
        obtain ⟨g5, hd⟩ := gd_ex hd
        refine r_sld C hX hbl dL_law_138 hS g5 ?_
        refine lv_aload_n hx hb dL_law_139 rfl (lv_at hL 0 rfl) ?_
        refine lv_iload_n hx hb dL_law_140 rfl (lv_at hL 3 rfl) ?_
        refine lv_iconst (v := 3) hx hb dL_law_141 (by decide) ?_
        refine lv_iadd hx hb dL_law_142 ?_
        obtain ⟨g6, hd⟩ := gd_ex hd
        refine r_sld C hX hbl dL_law_143 hS g6 ?_
        refine lv_aload_n hx hb dL_law_144 rfl (lv_at hL 0 rfl) ?_
        refine lv_iload_n hx hb dL_law_145 rfl (lv_at hL 3 rfl) ?_
        refine lv_iconst (v := 4) hx hb dL_law_146 (by decide) ?_
        refine lv_iadd hx hb dL_law_147 ?_
        obtain ⟨g7, hd⟩ := gd_ex hd
        refine r_sld C hX hbl dL_law_148 hS g7 ?_
        obtain ⟨g8, hd⟩ := gd_ex hd
        obtain ⟨v10, G11, h9, hd⟩ := b2_ex hd
        obtain ⟨g12, hd⟩ := gd_ex hd
        obtain ⟨hM, hd⟩ := mP_ex hd
        refine r_callV (a := x1) (ci := 8) (As := [.int (xs (x3 + 1).toNatClampNeg), .int (xs (x3 + 2).toNatClampNeg), .int (xs (x3 + 3).toNatClampNeg), .int (xs (x3 + 4).toNatClampNeg)]) C (ct_X8_plug hB h9) mf_X8_plug ml_L_21 mv_X8_plug rfl ⟨Nat.le_of_ble_eq_true rfl, Nat.le_of_ble_eq_true rfl⟩ dL_law_149 hL.1 rfl hR hS g8 ⟨by show hn G - n0 + (hn G11 - hn G) ≤ 600000; omega, by show hs G - s0 + (hs G11 - hs G) ≤ 7302250; omega⟩ (cat_le [] (Nat.le_of_ble_eq_true rfl)) (fun H locs hR hS => ?_)
        refine W_st (st2 := [.int v10]) rfl ?_
        refine W_cs (c2 := hn G11 - n0) (s2 := hs G11 - s0) (by first | rfl | omega) (by first | rfl | omega) ?_
        replace hB : b0 ≤ hn G11 := by omega
        replace hZ : n0 ≤ hn G11 ∧ s0 ≤ hs G11 := by omega
        refine lv_aload_n hx hb dL_law_152 rfl (lv_at hL 2 rfl) ?_
        rw [← rv_ne hq2]
        refine lv_aload_n hx hb dL_law_153 rfl (lv_at hL 0 rfl) ?_
        refine lv_iload_n hx hb dL_law_154 rfl (lv_at hL 3 rfl) ?_
        refine lv_iconst (v := 1) hx hb dL_law_155 (by decide) ?_
        refine lv_iadd hx hb dL_law_156 ?_
        obtain ⟨g13, hd⟩ := gd_ex hd
        refine r_sld C hX hbl dL_law_157 hS g13 ?_
        refine lv_aload_n hx hb dL_law_158 rfl (lv_at hL 0 rfl) ?_
        refine lv_iload_n hx hb dL_law_159 rfl (lv_at hL 3 rfl) ?_
        refine lv_iconst (v := 2) hx hb dL_law_160 (by decide) ?_
        refine lv_iadd hx hb dL_law_161 ?_
        obtain ⟨g14, hd⟩ := gd_ex hd
        refine r_sld C hX hbl dL_law_162 hS g14 ?_
        refine lv_aload_n hx hb dL_law_163 rfl (lv_at hL 0 rfl) ?_
        refine lv_iload_n hx hb dL_law_164 rfl (lv_at hL 3 rfl) ?_
        refine lv_iconst (v := 3) hx hb dL_law_165 (by decide) ?_
        refine lv_iadd hx hb dL_law_166 ?_
        obtain ⟨g15, hd⟩ := gd_ex hd
        refine r_sld C hX hbl dL_law_167 hS g15 ?_
        refine lv_aload_n hx hb dL_law_168 rfl (lv_at hL 0 rfl) ?_
        refine lv_iload_n hx hb dL_law_169 rfl (lv_at hL 3 rfl) ?_
        refine lv_iconst (v := 4) hx hb dL_law_170 (by decide) ?_
        refine lv_iadd hx hb dL_law_171 ?_
        obtain ⟨g16, hd⟩ := gd_ex hd
        refine r_sld C hX hbl dL_law_172 hS g16 ?_
        obtain ⟨g17, hd⟩ := gd_ex hd
        obtain ⟨v19, G20, h18, hd⟩ := b2_ex hd
        obtain ⟨g21, hd⟩ := gd_ex hd
        refine r_callV (a := x2) (ci := 9) (As := [.int (xs (x3 + 1).toNatClampNeg), .int (xs (x3 + 2).toNatClampNeg), .int (xs (x3 + 3).toNatClampNeg), .int (xs (x3 + 4).toNatClampNeg)]) C (ct_X9_plug h18) mf_X9_plug ml_L_25 mv_X9_plug rfl ⟨Nat.le_of_ble_eq_true rfl, Nat.le_of_ble_eq_true rfl⟩ dL_law_173 hL.1 rfl hR hS g17 ⟨by show hn G11 - n0 ≤ 600000; omega, by show hs G11 - s0 ≤ 7302250; omega⟩ (cat_le [.inl v10] (Nat.le_of_ble_eq_true rfl)) (fun H locs hR hS => ?_)
        refine W_st (st2 := [.int v19, .int v10]) rfl ?_
        refine W_cs (c2 := hn G20 - n0) (s2 := hs G20 - s0) (by first | rfl | omega) (by first | rfl | omega) ?_
        replace hB : b0 ≤ hn G20 := by omega
        replace hZ : n0 ≤ hn G20 ∧ s0 ≤ hs G20 := by omega
        replace hM : hn G20 ≤ hn GG ∧ hs G20 ≤ hs GG := by omega
        refine lv_icmp_eq (tgt := 818) hx hb dL_law_176 (by decide) (fun c22 => ?_) (fun c22 => ?_)
        · rw [if_pos c22] at hd
          refine lv_iinc (lv' := [(3, .int (x3 + 6)), (0, .ref b), (1, .ref x1), (2, .ref x2)]) (k := 3) hx hb dL_law_818 hL rfl rfl (by decide) rfl (fun ls hL => ?_)
          refine lv_goto (tgt := 28) hx hb dL_law_821 (by decide) ?_
          exact ih hq1 hq2 (lv_sub hL [1, 2, 3, 0] rfl) hR hS hB hZ hd
        · rw [if_neg c22] at hd
          refine lv_iconst (v := 0) hx hb dL_law_179 (by decide) ?_
          exact absurd (Prod.mk.inj (Option.some.inj hd)).1 (by decide)
      rw [if_neg c3_0] at hd
      by_cases c3_1 : ((xs x3.toNatClampNeg) &&& 31) = 1
      · rw [if_pos c3_1] at hd
        rw [c3_1]
        refine lv_tableIn (tgt := 181) hx hb dL_law_43 (by decide) (by decide) rfl (by decide) ?_
        refine lv_aload_n hx hb dL_law_181 rfl (lv_at hL 1 rfl) ?_
        rw [← rv_ne hq1]
        refine lv_aload_n hx hb dL_law_182 rfl (lv_at hL 0 rfl) ?_
        refine lv_iload_n hx hb dL_law_183 rfl (lv_at hL 3 rfl) ?_
        refine lv_iconst (v := 1) hx hb dL_law_184 (by decide) ?_
        refine lv_iadd hx hb dL_law_185 ?_
        obtain ⟨g23, hd⟩ := gd_ex hd
        refine r_sld C hX hbl dL_law_186 hS g23 ?_
        refine lv_aload_n hx hb dL_law_187 rfl (lv_at hL 0 rfl) ?_
        refine lv_iload_n hx hb dL_law_188 rfl (lv_at hL 3 rfl) ?_
        refine lv_iconst (v := 2) hx hb dL_law_189 (by decide) ?_
        refine lv_iadd hx hb dL_law_190 ?_
        obtain ⟨g24, hd⟩ := gd_ex hd
        refine r_sld C hX hbl dL_law_191 hS g24 ?_
        obtain ⟨g25, hd⟩ := gd_ex hd
        obtain ⟨v27, G28, h26, hd⟩ := b2_ex hd
        obtain ⟨g29, hd⟩ := gd_ex hd
        obtain ⟨hM, hd⟩ := mP_ex hd
        refine r_callV (a := x1) (ci := 8) (As := [.int (xs (x3 + 1).toNatClampNeg), .int (xs (x3 + 2).toNatClampNeg)]) C (ct_X8_host hB h26) mf_X8_host ml_L_26 mv_X8_host rfl ⟨Nat.le_of_ble_eq_true rfl, Nat.le_of_ble_eq_true rfl⟩ dL_law_192 hL.1 rfl hR hS g25 ⟨by show hn G - n0 + (hn G28 - hn G) ≤ 600000; omega, by show hs G - s0 + (hs G28 - hs G) ≤ 7302250; omega⟩ (cat_le [] (Nat.le_of_ble_eq_true rfl)) (fun H locs hR hS => ?_)
        refine W_st (st2 := [.int v27]) rfl ?_
        refine W_cs (c2 := hn G28 - n0) (s2 := hs G28 - s0) (by first | rfl | omega) (by first | rfl | omega) ?_
        replace hB : b0 ≤ hn G28 := by omega
        replace hZ : n0 ≤ hn G28 ∧ s0 ≤ hs G28 := by omega
        refine lv_aload_n hx hb dL_law_195 rfl (lv_at hL 2 rfl) ?_
        rw [← rv_ne hq2]
        refine lv_aload_n hx hb dL_law_196 rfl (lv_at hL 0 rfl) ?_
        refine lv_iload_n hx hb dL_law_197 rfl (lv_at hL 3 rfl) ?_
        refine lv_iconst (v := 1) hx hb dL_law_198 (by decide) ?_
        refine lv_iadd hx hb dL_law_199 ?_
        obtain ⟨g30, hd⟩ := gd_ex hd
        refine r_sld C hX hbl dL_law_200 hS g30 ?_
        refine lv_aload_n hx hb dL_law_201 rfl (lv_at hL 0 rfl) ?_
        refine lv_iload_n hx hb dL_law_202 rfl (lv_at hL 3 rfl) ?_
        refine lv_iconst (v := 2) hx hb dL_law_203 (by decide) ?_
        refine lv_iadd hx hb dL_law_204 ?_
        obtain ⟨g31, hd⟩ := gd_ex hd
        refine r_sld C hX hbl dL_law_205 hS g31 ?_
        obtain ⟨g32, hd⟩ := gd_ex hd
        obtain ⟨v34, G35, h33, hd⟩ := b2_ex hd
        obtain ⟨g36, hd⟩ := gd_ex hd
        refine r_callV (a := x2) (ci := 9) (As := [.int (xs (x3 + 1).toNatClampNeg), .int (xs (x3 + 2).toNatClampNeg)]) C (ct_X9_host h33) mf_X9_host ml_L_30 mv_X9_host rfl ⟨Nat.le_of_ble_eq_true rfl, Nat.le_of_ble_eq_true rfl⟩ dL_law_206 hL.1 rfl hR hS g32 ⟨by show hn G28 - n0 ≤ 600000; omega, by show hs G28 - s0 ≤ 7302250; omega⟩ (cat_le [.inl v27] (Nat.le_of_ble_eq_true rfl)) (fun H locs hR hS => ?_)
        refine W_st (st2 := [.int v34, .int v27]) rfl ?_
        refine W_cs (c2 := hn G35 - n0) (s2 := hs G35 - s0) (by first | rfl | omega) (by first | rfl | omega) ?_
        replace hB : b0 ≤ hn G35 := by omega
        replace hZ : n0 ≤ hn G35 ∧ s0 ≤ hs G35 := by omega
        replace hM : hn G35 ≤ hn GG ∧ hs G35 ≤ hs GG := by omega
        refine lv_icmp_eq (tgt := 818) hx hb dL_law_209 (by decide) (fun c37 => ?_) (fun c37 => ?_)
        · rw [if_pos c37] at hd
          refine lv_iinc (lv' := [(3, .int (x3 + 6)), (0, .ref b), (1, .ref x1), (2, .ref x2)]) (k := 3) hx hb dL_law_818 hL rfl rfl (by decide) rfl (fun ls hL => ?_)
          refine lv_goto (tgt := 28) hx hb dL_law_821 (by decide) ?_
          exact ih hq1 hq2 (lv_sub hL [1, 2, 3, 0] rfl) hR hS hB hZ hd
        · rw [if_neg c37] at hd
          refine lv_iconst (v := 0) hx hb dL_law_212 (by decide) ?_
          exact absurd (Prod.mk.inj (Option.some.inj hd)).1 (by decide)
      rw [if_neg c3_1] at hd
      by_cases c3_2 : ((xs x3.toNatClampNeg) &&& 31) = 2
      · rw [if_pos c3_2] at hd
        rw [c3_2]
        refine lv_tableIn (tgt := 214) hx hb dL_law_43 (by decide) (by decide) rfl (by decide) ?_
        refine lv_aload_n hx hb dL_law_214 rfl (lv_at hL 1 rfl) ?_
        rw [← rv_ne hq1]
        refine lv_aload_n hx hb dL_law_215 rfl (lv_at hL 0 rfl) ?_
        refine lv_iload_n hx hb dL_law_216 rfl (lv_at hL 3 rfl) ?_
        refine lv_iconst (v := 1) hx hb dL_law_217 (by decide) ?_
        refine lv_iadd hx hb dL_law_218 ?_
        obtain ⟨g38, hd⟩ := gd_ex hd
        refine r_sld C hX hbl dL_law_219 hS g38 ?_
        refine lv_aload_n hx hb dL_law_220 rfl (lv_at hL 0 rfl) ?_
        refine lv_iload_n hx hb dL_law_221 rfl (lv_at hL 3 rfl) ?_
        refine lv_iconst (v := 2) hx hb dL_law_222 (by decide) ?_
        refine lv_iadd hx hb dL_law_223 ?_
        obtain ⟨g39, hd⟩ := gd_ex hd
        refine r_sld C hX hbl dL_law_224 hS g39 ?_
        obtain ⟨g40, hd⟩ := gd_ex hd
        obtain ⟨v42, G43, h41, hd⟩ := b2_ex hd
        obtain ⟨g44, hd⟩ := gd_ex hd
        refine r_callV (a := x1) (ci := 8) (As := [.int (xs (x3 + 1).toNatClampNeg), .int (xs (x3 + 2).toNatClampNeg)]) C (ct_X8_meet h41) mf_X8_meet ml_L_31 mv_X8_meet rfl ⟨Nat.le_of_ble_eq_true rfl, Nat.le_of_ble_eq_true rfl⟩ dL_law_225 hL.1 rfl hR hS g40 ⟨by show hn G - n0 ≤ 600000; omega, by show hs G - s0 ≤ 7302250; omega⟩ (cat_le [] (Nat.le_of_ble_eq_true rfl)) (fun H locs hR hS => ?_)
        refine W_st (st2 := [.int v42]) rfl ?_
        refine W_cs (c2 := hn G43 - n0) (s2 := hs G43 - s0) (by first | rfl | omega) (by first | rfl | omega) ?_
        replace hB : b0 ≤ hn G43 := by omega
        replace hZ : n0 ≤ hn G43 ∧ s0 ≤ hs G43 := by omega
        replace hM : hn G43 ≤ hn GG ∧ hs G43 ≤ hs GG := by omega
        refine lv_aload_n hx hb dL_law_228 rfl (lv_at hL 2 rfl) ?_
        rw [← rv_ne hq2]
        refine lv_aload_n hx hb dL_law_229 rfl (lv_at hL 0 rfl) ?_
        refine lv_iload_n hx hb dL_law_230 rfl (lv_at hL 3 rfl) ?_
        refine lv_iconst (v := 1) hx hb dL_law_231 (by decide) ?_
        refine lv_iadd hx hb dL_law_232 ?_
        obtain ⟨g45, hd⟩ := gd_ex hd
        refine r_sld C hX hbl dL_law_233 hS g45 ?_
        refine lv_aload_n hx hb dL_law_234 rfl (lv_at hL 0 rfl) ?_
        refine lv_iload_n hx hb dL_law_235 rfl (lv_at hL 3 rfl) ?_
        refine lv_iconst (v := 2) hx hb dL_law_236 (by decide) ?_
        refine lv_iadd hx hb dL_law_237 ?_
        obtain ⟨g46, hd⟩ := gd_ex hd
        refine r_sld C hX hbl dL_law_238 hS g46 ?_
        obtain ⟨g47, hd⟩ := gd_ex hd
        obtain ⟨v49, G50, h48, hd⟩ := b2_ex hd
        obtain ⟨g51, hd⟩ := gd_ex hd
        refine r_callV (a := x2) (ci := 9) (As := [.int (xs (x3 + 1).toNatClampNeg), .int (xs (x3 + 2).toNatClampNeg)]) C (ct_X9_meet h48) mf_X9_meet ml_L_34 mv_X9_meet rfl ⟨Nat.le_of_ble_eq_true rfl, Nat.le_of_ble_eq_true rfl⟩ dL_law_239 hL.1 rfl hR hS g47 ⟨by show hn G43 - n0 ≤ 600000; omega, by show hs G43 - s0 ≤ 7302250; omega⟩ (cat_le [.inl v42] (Nat.le_of_ble_eq_true rfl)) (fun H locs hR hS => ?_)
        refine W_st (st2 := [.int v49, .int v42]) rfl ?_
        refine W_cs (c2 := hn G50 - n0) (s2 := hs G50 - s0) (by first | rfl | omega) (by first | rfl | omega) ?_
        replace hB : b0 ≤ hn G50 := by omega
        replace hZ : n0 ≤ hn G50 ∧ s0 ≤ hs G50 := by omega
        replace hM : hn G50 ≤ hn GG ∧ hs G50 ≤ hs GG := by omega
        refine lv_icmp_eq (tgt := 818) hx hb dL_law_242 (by decide) (fun c52 => ?_) (fun c52 => ?_)
        · rw [if_pos c52] at hd
          refine lv_iinc (lv' := [(3, .int (x3 + 6)), (0, .ref b), (1, .ref x1), (2, .ref x2)]) (k := 3) hx hb dL_law_818 hL rfl rfl (by decide) rfl (fun ls hL => ?_)
          refine lv_goto (tgt := 28) hx hb dL_law_821 (by decide) ?_
          exact ih hq1 hq2 (lv_sub hL [1, 2, 3, 0] rfl) hR hS hB hZ hd
        · rw [if_neg c52] at hd
          refine lv_iconst (v := 0) hx hb dL_law_245 (by decide) ?_
          exact absurd (Prod.mk.inj (Option.some.inj hd)).1 (by decide)
      rw [if_neg c3_2] at hd
      by_cases c3_3 : ((xs x3.toNatClampNeg) &&& 31) = 3
      · rw [if_pos c3_3] at hd
        rw [c3_3]
        refine lv_tableIn (tgt := 247) hx hb dL_law_43 (by decide) (by decide) rfl (by decide) ?_
        refine lv_aload_n hx hb dL_law_247 rfl (lv_at hL 1 rfl) ?_
        rw [← rv_ne hq1]
        refine lv_aload_n hx hb dL_law_248 rfl (lv_at hL 0 rfl) ?_
        refine lv_iload_n hx hb dL_law_249 rfl (lv_at hL 3 rfl) ?_
        refine lv_iconst (v := 1) hx hb dL_law_250 (by decide) ?_
        refine lv_iadd hx hb dL_law_251 ?_
        obtain ⟨g53, hd⟩ := gd_ex hd
        refine r_sld C hX hbl dL_law_252 hS g53 ?_
        obtain ⟨g54, hd⟩ := gd_ex hd
        obtain ⟨v56, G57, h55, hd⟩ := b2_ex hd
        obtain ⟨g58, hd⟩ := gd_ex hd
        refine r_callV (a := x1) (ci := 8) (As := [.int (xs (x3 + 1).toNatClampNeg)]) C (ct_X8_cut h55) mf_X8_cut ml_L_35 mv_X8_cut rfl ⟨Nat.le_of_ble_eq_true rfl, Nat.le_of_ble_eq_true rfl⟩ dL_law_253 hL.1 rfl hR hS g54 ⟨by show hn G - n0 ≤ 600000; omega, by show hs G - s0 ≤ 7302250; omega⟩ (cat_le [] (Nat.le_of_ble_eq_true rfl)) (fun H locs hR hS => ?_)
        refine W_st (st2 := [.int v56]) rfl ?_
        refine W_cs (c2 := hn G57 - n0) (s2 := hs G57 - s0) (by first | rfl | omega) (by first | rfl | omega) ?_
        replace hB : b0 ≤ hn G57 := by omega
        replace hZ : n0 ≤ hn G57 ∧ s0 ≤ hs G57 := by omega
        replace hM : hn G57 ≤ hn GG ∧ hs G57 ≤ hs GG := by omega
        refine lv_aload_n hx hb dL_law_256 rfl (lv_at hL 2 rfl) ?_
        rw [← rv_ne hq2]
        refine lv_aload_n hx hb dL_law_257 rfl (lv_at hL 0 rfl) ?_
        refine lv_iload_n hx hb dL_law_258 rfl (lv_at hL 3 rfl) ?_
        refine lv_iconst (v := 1) hx hb dL_law_259 (by decide) ?_
        refine lv_iadd hx hb dL_law_260 ?_
        obtain ⟨g59, hd⟩ := gd_ex hd
        refine r_sld C hX hbl dL_law_261 hS g59 ?_
        obtain ⟨g60, hd⟩ := gd_ex hd
        obtain ⟨v62, G63, h61, hd⟩ := b2_ex hd
        obtain ⟨g64, hd⟩ := gd_ex hd
        refine r_callV (a := x2) (ci := 9) (As := [.int (xs (x3 + 1).toNatClampNeg)]) C (ct_X9_cut h61) mf_X9_cut ml_L_39 mv_X9_cut rfl ⟨Nat.le_of_ble_eq_true rfl, Nat.le_of_ble_eq_true rfl⟩ dL_law_262 hL.1 rfl hR hS g60 ⟨by show hn G57 - n0 ≤ 600000; omega, by show hs G57 - s0 ≤ 7302250; omega⟩ (cat_le [.inl v56] (Nat.le_of_ble_eq_true rfl)) (fun H locs hR hS => ?_)
        refine W_st (st2 := [.int v62, .int v56]) rfl ?_
        refine W_cs (c2 := hn G63 - n0) (s2 := hs G63 - s0) (by first | rfl | omega) (by first | rfl | omega) ?_
        replace hB : b0 ≤ hn G63 := by omega
        replace hZ : n0 ≤ hn G63 ∧ s0 ≤ hs G63 := by omega
        replace hM : hn G63 ≤ hn GG ∧ hs G63 ≤ hs GG := by omega
        refine lv_icmp_eq (tgt := 818) hx hb dL_law_265 (by decide) (fun c65 => ?_) (fun c65 => ?_)
        · rw [if_pos c65] at hd
          refine lv_iinc (lv' := [(3, .int (x3 + 6)), (0, .ref b), (1, .ref x1), (2, .ref x2)]) (k := 3) hx hb dL_law_818 hL rfl rfl (by decide) rfl (fun ls hL => ?_)
          refine lv_goto (tgt := 28) hx hb dL_law_821 (by decide) ?_
          exact ih hq1 hq2 (lv_sub hL [1, 2, 3, 0] rfl) hR hS hB hZ hd
        · rw [if_neg c65] at hd
          refine lv_iconst (v := 0) hx hb dL_law_268 (by decide) ?_
          exact absurd (Prod.mk.inj (Option.some.inj hd)).1 (by decide)
      rw [if_neg c3_3] at hd
      by_cases c3_4 : ((xs x3.toNatClampNeg) &&& 31) = 4
      · rw [if_pos c3_4] at hd
        rw [c3_4]
        refine lv_tableIn (tgt := 270) hx hb dL_law_43 (by decide) (by decide) rfl (by decide) ?_
        refine lv_aload_n hx hb dL_law_270 rfl (lv_at hL 1 rfl) ?_
        rw [← rv_ne hq1]
        refine lv_aload_n hx hb dL_law_271 rfl (lv_at hL 0 rfl) ?_
        refine lv_iload_n hx hb dL_law_272 rfl (lv_at hL 3 rfl) ?_
        refine lv_iconst (v := 1) hx hb dL_law_273 (by decide) ?_
        refine lv_iadd hx hb dL_law_274 ?_
        obtain ⟨g66, hd⟩ := gd_ex hd
        refine r_sld C hX hbl dL_law_275 hS g66 ?_
        obtain ⟨g67, hd⟩ := gd_ex hd
        obtain ⟨v69, G70, h68, hd⟩ := b2_ex hd
        obtain ⟨g71, hd⟩ := gd_ex hd
        refine r_callV (a := x1) (ci := 8) (As := [.int (xs (x3 + 1).toNatClampNeg)]) C (ct_X8_mend h68) mf_X8_mend ml_L_40 mv_X8_mend rfl ⟨Nat.le_of_ble_eq_true rfl, Nat.le_of_ble_eq_true rfl⟩ dL_law_276 hL.1 rfl hR hS g67 ⟨by show hn G - n0 ≤ 600000; omega, by show hs G - s0 ≤ 7302250; omega⟩ (cat_le [] (Nat.le_of_ble_eq_true rfl)) (fun H locs hR hS => ?_)
        refine W_st (st2 := [.int v69]) rfl ?_
        refine W_cs (c2 := hn G70 - n0) (s2 := hs G70 - s0) (by first | rfl | omega) (by first | rfl | omega) ?_
        replace hB : b0 ≤ hn G70 := by omega
        replace hZ : n0 ≤ hn G70 ∧ s0 ≤ hs G70 := by omega
        replace hM : hn G70 ≤ hn GG ∧ hs G70 ≤ hs GG := by omega
        refine lv_aload_n hx hb dL_law_279 rfl (lv_at hL 2 rfl) ?_
        rw [← rv_ne hq2]
        refine lv_aload_n hx hb dL_law_280 rfl (lv_at hL 0 rfl) ?_
        refine lv_iload_n hx hb dL_law_281 rfl (lv_at hL 3 rfl) ?_
        refine lv_iconst (v := 1) hx hb dL_law_282 (by decide) ?_
        refine lv_iadd hx hb dL_law_283 ?_
        obtain ⟨g72, hd⟩ := gd_ex hd
        refine r_sld C hX hbl dL_law_284 hS g72 ?_
        obtain ⟨g73, hd⟩ := gd_ex hd
        obtain ⟨v75, G76, h74, hd⟩ := b2_ex hd
        obtain ⟨g77, hd⟩ := gd_ex hd
        refine r_callV (a := x2) (ci := 9) (As := [.int (xs (x3 + 1).toNatClampNeg)]) C (ct_X9_mend h74) mf_X9_mend ml_L_43 mv_X9_mend rfl ⟨Nat.le_of_ble_eq_true rfl, Nat.le_of_ble_eq_true rfl⟩ dL_law_285 hL.1 rfl hR hS g73 ⟨by show hn G70 - n0 ≤ 600000; omega, by show hs G70 - s0 ≤ 7302250; omega⟩ (cat_le [.inl v69] (Nat.le_of_ble_eq_true rfl)) (fun H locs hR hS => ?_)
        refine W_st (st2 := [.int v75, .int v69]) rfl ?_
        refine W_cs (c2 := hn G76 - n0) (s2 := hs G76 - s0) (by first | rfl | omega) (by first | rfl | omega) ?_
        replace hB : b0 ≤ hn G76 := by omega
        replace hZ : n0 ≤ hn G76 ∧ s0 ≤ hs G76 := by omega
        replace hM : hn G76 ≤ hn GG ∧ hs G76 ≤ hs GG := by omega
        refine lv_icmp_eq (tgt := 818) hx hb dL_law_288 (by decide) (fun c78 => ?_) (fun c78 => ?_)
        · rw [if_pos c78] at hd
          refine lv_iinc (lv' := [(3, .int (x3 + 6)), (0, .ref b), (1, .ref x1), (2, .ref x2)]) (k := 3) hx hb dL_law_818 hL rfl rfl (by decide) rfl (fun ls hL => ?_)
          refine lv_goto (tgt := 28) hx hb dL_law_821 (by decide) ?_
          exact ih hq1 hq2 (lv_sub hL [1, 2, 3, 0] rfl) hR hS hB hZ hd
        · rw [if_neg c78] at hd
          refine lv_iconst (v := 0) hx hb dL_law_291 (by decide) ?_
          exact absurd (Prod.mk.inj (Option.some.inj hd)).1 (by decide)
      rw [if_neg c3_4] at hd
      by_cases c3_5 : ((xs x3.toNatClampNeg) &&& 31) = 5
      · rw [if_pos c3_5] at hd
        rw [c3_5]
        refine lv_tableIn (tgt := 293) hx hb dL_law_43 (by decide) (by decide) rfl (by decide) ?_
        refine lv_aload_n hx hb dL_law_293 rfl (lv_at hL 1 rfl) ?_
        rw [← rv_ne hq1]
        refine lv_aload_n hx hb dL_law_294 rfl (lv_at hL 0 rfl) ?_
        refine lv_iload_n hx hb dL_law_295 rfl (lv_at hL 3 rfl) ?_
        refine lv_iconst (v := 1) hx hb dL_law_296 (by decide) ?_
        refine lv_iadd hx hb dL_law_297 ?_
        obtain ⟨g79, hd⟩ := gd_ex hd
        refine r_sld C hX hbl dL_law_298 hS g79 ?_
        refine lv_aload_n hx hb dL_law_299 rfl (lv_at hL 0 rfl) ?_
        refine lv_iload_n hx hb dL_law_300 rfl (lv_at hL 3 rfl) ?_
        refine lv_iconst (v := 2) hx hb dL_law_301 (by decide) ?_
        refine lv_iadd hx hb dL_law_302 ?_
        obtain ⟨g80, hd⟩ := gd_ex hd
        refine r_sld C hX hbl dL_law_303 hS g80 ?_
        obtain ⟨g81, hd⟩ := gd_ex hd
        obtain ⟨v83, G84, h82, hd⟩ := b2_ex hd
        obtain ⟨g85, hd⟩ := gd_ex hd
        refine r_callV (a := x1) (ci := 8) (As := [.int (xs (x3 + 1).toNatClampNeg), .int (xs (x3 + 2).toNatClampNeg)]) C (ct_X8_join h82) mf_X8_join ml_L_44 mv_X8_join rfl ⟨Nat.le_of_ble_eq_true rfl, Nat.le_of_ble_eq_true rfl⟩ dL_law_304 hL.1 rfl hR hS g81 ⟨by show hn G - n0 ≤ 600000; omega, by show hs G - s0 ≤ 7302250; omega⟩ (cat_le [] (Nat.le_of_ble_eq_true rfl)) (fun H locs hR hS => ?_)
        refine W_st (st2 := [.int v83]) rfl ?_
        refine W_cs (c2 := hn G84 - n0) (s2 := hs G84 - s0) (by first | rfl | omega) (by first | rfl | omega) ?_
        replace hB : b0 ≤ hn G84 := by omega
        replace hZ : n0 ≤ hn G84 ∧ s0 ≤ hs G84 := by omega
        replace hM : hn G84 ≤ hn GG ∧ hs G84 ≤ hs GG := by omega
        refine lv_aload_n hx hb dL_law_307 rfl (lv_at hL 2 rfl) ?_
        rw [← rv_ne hq2]
        refine lv_aload_n hx hb dL_law_308 rfl (lv_at hL 0 rfl) ?_
        refine lv_iload_n hx hb dL_law_309 rfl (lv_at hL 3 rfl) ?_
        refine lv_iconst (v := 1) hx hb dL_law_310 (by decide) ?_
        refine lv_iadd hx hb dL_law_311 ?_
        obtain ⟨g86, hd⟩ := gd_ex hd
        refine r_sld C hX hbl dL_law_312 hS g86 ?_
        refine lv_aload_n hx hb dL_law_313 rfl (lv_at hL 0 rfl) ?_
        refine lv_iload_n hx hb dL_law_314 rfl (lv_at hL 3 rfl) ?_
        refine lv_iconst (v := 2) hx hb dL_law_315 (by decide) ?_
        refine lv_iadd hx hb dL_law_316 ?_
        obtain ⟨g87, hd⟩ := gd_ex hd
        refine r_sld C hX hbl dL_law_317 hS g87 ?_
        obtain ⟨g88, hd⟩ := gd_ex hd
        obtain ⟨v90, G91, h89, hd⟩ := b2_ex hd
        obtain ⟨g92, hd⟩ := gd_ex hd
        refine r_callV (a := x2) (ci := 9) (As := [.int (xs (x3 + 1).toNatClampNeg), .int (xs (x3 + 2).toNatClampNeg)]) C (ct_X9_join h89) mf_X9_join ml_L_47 mv_X9_join rfl ⟨Nat.le_of_ble_eq_true rfl, Nat.le_of_ble_eq_true rfl⟩ dL_law_318 hL.1 rfl hR hS g88 ⟨by show hn G84 - n0 ≤ 600000; omega, by show hs G84 - s0 ≤ 7302250; omega⟩ (cat_le [.inl v83] (Nat.le_of_ble_eq_true rfl)) (fun H locs hR hS => ?_)
        refine W_st (st2 := [.int v90, .int v83]) rfl ?_
        refine W_cs (c2 := hn G91 - n0) (s2 := hs G91 - s0) (by first | rfl | omega) (by first | rfl | omega) ?_
        replace hB : b0 ≤ hn G91 := by omega
        replace hZ : n0 ≤ hn G91 ∧ s0 ≤ hs G91 := by omega
        replace hM : hn G91 ≤ hn GG ∧ hs G91 ≤ hs GG := by omega
        refine lv_icmp_eq (tgt := 818) hx hb dL_law_321 (by decide) (fun c93 => ?_) (fun c93 => ?_)
        · rw [if_pos c93] at hd
          refine lv_iinc (lv' := [(3, .int (x3 + 6)), (0, .ref b), (1, .ref x1), (2, .ref x2)]) (k := 3) hx hb dL_law_818 hL rfl rfl (by decide) rfl (fun ls hL => ?_)
          refine lv_goto (tgt := 28) hx hb dL_law_821 (by decide) ?_
          exact ih hq1 hq2 (lv_sub hL [1, 2, 3, 0] rfl) hR hS hB hZ hd
        · rw [if_neg c93] at hd
          refine lv_iconst (v := 0) hx hb dL_law_324 (by decide) ?_
          exact absurd (Prod.mk.inj (Option.some.inj hd)).1 (by decide)
      rw [if_neg c3_5] at hd
      by_cases c3_6 : ((xs x3.toNatClampNeg) &&& 31) = 6
      · rw [if_pos c3_6] at hd
        rw [c3_6]
        refine lv_tableIn (tgt := 326) hx hb dL_law_43 (by decide) (by decide) rfl (by decide) ?_
        refine lv_aload_n hx hb dL_law_326 rfl (lv_at hL 1 rfl) ?_
        rw [← rv_ne hq1]
        refine lv_aload_n hx hb dL_law_327 rfl (lv_at hL 0 rfl) ?_
        refine lv_iload_n hx hb dL_law_328 rfl (lv_at hL 3 rfl) ?_
        refine lv_iconst (v := 1) hx hb dL_law_329 (by decide) ?_
        refine lv_iadd hx hb dL_law_330 ?_
        obtain ⟨g94, hd⟩ := gd_ex hd
        refine r_sld C hX hbl dL_law_331 hS g94 ?_
        refine lv_aload_n hx hb dL_law_332 rfl (lv_at hL 0 rfl) ?_
        refine lv_iload_n hx hb dL_law_333 rfl (lv_at hL 3 rfl) ?_
        refine lv_iconst (v := 2) hx hb dL_law_334 (by decide) ?_
        refine lv_iadd hx hb dL_law_335 ?_
        obtain ⟨g95, hd⟩ := gd_ex hd
        refine r_sld C hX hbl dL_law_336 hS g95 ?_
        obtain ⟨g96, hd⟩ := gd_ex hd
        obtain ⟨v98, G99, h97, hd⟩ := b2_ex hd
        obtain ⟨g100, hd⟩ := gd_ex hd
        refine r_callV (a := x1) (ci := 8) (As := [.int (xs (x3 + 1).toNatClampNeg), .int (xs (x3 + 2).toNatClampNeg)]) C (ct_X8_leave h97) mf_X8_leave ml_L_48 mv_X8_leave rfl ⟨Nat.le_of_ble_eq_true rfl, Nat.le_of_ble_eq_true rfl⟩ dL_law_337 hL.1 rfl hR hS g96 ⟨by show hn G - n0 ≤ 600000; omega, by show hs G - s0 ≤ 7302250; omega⟩ (cat_le [] (Nat.le_of_ble_eq_true rfl)) (fun H locs hR hS => ?_)
        refine W_st (st2 := [.int v98]) rfl ?_
        refine W_cs (c2 := hn G99 - n0) (s2 := hs G99 - s0) (by first | rfl | omega) (by first | rfl | omega) ?_
        replace hB : b0 ≤ hn G99 := by omega
        replace hZ : n0 ≤ hn G99 ∧ s0 ≤ hs G99 := by omega
        replace hM : hn G99 ≤ hn GG ∧ hs G99 ≤ hs GG := by omega
        refine lv_aload_n hx hb dL_law_340 rfl (lv_at hL 2 rfl) ?_
        rw [← rv_ne hq2]
        refine lv_aload_n hx hb dL_law_341 rfl (lv_at hL 0 rfl) ?_
        refine lv_iload_n hx hb dL_law_342 rfl (lv_at hL 3 rfl) ?_
        refine lv_iconst (v := 1) hx hb dL_law_343 (by decide) ?_
        refine lv_iadd hx hb dL_law_344 ?_
        obtain ⟨g101, hd⟩ := gd_ex hd
        refine r_sld C hX hbl dL_law_345 hS g101 ?_
        refine lv_aload_n hx hb dL_law_346 rfl (lv_at hL 0 rfl) ?_
        refine lv_iload_n hx hb dL_law_347 rfl (lv_at hL 3 rfl) ?_
        refine lv_iconst (v := 2) hx hb dL_law_348 (by decide) ?_
        refine lv_iadd hx hb dL_law_349 ?_
        obtain ⟨g102, hd⟩ := gd_ex hd
        refine r_sld C hX hbl dL_law_350 hS g102 ?_
        obtain ⟨g103, hd⟩ := gd_ex hd
        obtain ⟨v105, G106, h104, hd⟩ := b2_ex hd
        obtain ⟨g107, hd⟩ := gd_ex hd
        refine r_callV (a := x2) (ci := 9) (As := [.int (xs (x3 + 1).toNatClampNeg), .int (xs (x3 + 2).toNatClampNeg)]) C (ct_X9_leave h104) mf_X9_leave ml_L_51 mv_X9_leave rfl ⟨Nat.le_of_ble_eq_true rfl, Nat.le_of_ble_eq_true rfl⟩ dL_law_351 hL.1 rfl hR hS g103 ⟨by show hn G99 - n0 ≤ 600000; omega, by show hs G99 - s0 ≤ 7302250; omega⟩ (cat_le [.inl v98] (Nat.le_of_ble_eq_true rfl)) (fun H locs hR hS => ?_)
        refine W_st (st2 := [.int v105, .int v98]) rfl ?_
        refine W_cs (c2 := hn G106 - n0) (s2 := hs G106 - s0) (by first | rfl | omega) (by first | rfl | omega) ?_
        replace hB : b0 ≤ hn G106 := by omega
        replace hZ : n0 ≤ hn G106 ∧ s0 ≤ hs G106 := by omega
        replace hM : hn G106 ≤ hn GG ∧ hs G106 ≤ hs GG := by omega
        refine lv_icmp_eq (tgt := 818) hx hb dL_law_354 (by decide) (fun c108 => ?_) (fun c108 => ?_)
        · rw [if_pos c108] at hd
          refine lv_iinc (lv' := [(3, .int (x3 + 6)), (0, .ref b), (1, .ref x1), (2, .ref x2)]) (k := 3) hx hb dL_law_818 hL rfl rfl (by decide) rfl (fun ls hL => ?_)
          refine lv_goto (tgt := 28) hx hb dL_law_821 (by decide) ?_
          exact ih hq1 hq2 (lv_sub hL [1, 2, 3, 0] rfl) hR hS hB hZ hd
        · rw [if_neg c108] at hd
          refine lv_iconst (v := 0) hx hb dL_law_357 (by decide) ?_
          exact absurd (Prod.mk.inj (Option.some.inj hd)).1 (by decide)
      rw [if_neg c3_6] at hd
      by_cases c3_7 : ((xs x3.toNatClampNeg) &&& 31) = 7
      · rw [if_pos c3_7] at hd
        rw [c3_7]
        refine lv_tableIn (tgt := 359) hx hb dL_law_43 (by decide) (by decide) rfl (by decide) ?_
        refine lv_aload_n hx hb dL_law_359 rfl (lv_at hL 1 rfl) ?_
        rw [← rv_ne hq1]
        refine lv_aload_n hx hb dL_law_360 rfl (lv_at hL 0 rfl) ?_
        refine lv_iload_n hx hb dL_law_361 rfl (lv_at hL 3 rfl) ?_
        refine lv_iconst (v := 1) hx hb dL_law_362 (by decide) ?_
        refine lv_iadd hx hb dL_law_363 ?_
        obtain ⟨g109, hd⟩ := gd_ex hd
        refine r_sld C hX hbl dL_law_364 hS g109 ?_
        refine lv_aload_n hx hb dL_law_365 rfl (lv_at hL 0 rfl) ?_
        refine lv_iload_n hx hb dL_law_366 rfl (lv_at hL 3 rfl) ?_
        refine lv_iconst (v := 2) hx hb dL_law_367 (by decide) ?_
        refine lv_iadd hx hb dL_law_368 ?_
        obtain ⟨g110, hd⟩ := gd_ex hd
        refine r_sld C hX hbl dL_law_369 hS g110 ?_
        obtain ⟨g111, hd⟩ := gd_ex hd
        obtain ⟨v113, G114, h112, hd⟩ := b2_ex hd
        obtain ⟨g115, hd⟩ := gd_ex hd
        refine r_callV (a := x1) (ci := 8) (As := [.int (xs (x3 + 1).toNatClampNeg), .int (xs (x3 + 2).toNatClampNeg)]) C (ct_X8_send h112) mf_X8_send ml_L_52 mv_X8_send rfl ⟨Nat.le_of_ble_eq_true rfl, Nat.le_of_ble_eq_true rfl⟩ dL_law_370 hL.1 rfl hR hS g111 ⟨by show hn G - n0 ≤ 600000; omega, by show hs G - s0 ≤ 7302250; omega⟩ (cat_le [] (Nat.le_of_ble_eq_true rfl)) (fun H locs hR hS => ?_)
        refine W_st (st2 := [.int v113]) rfl ?_
        refine W_cs (c2 := hn G114 - n0) (s2 := hs G114 - s0) (by first | rfl | omega) (by first | rfl | omega) ?_
        replace hB : b0 ≤ hn G114 := by omega
        replace hZ : n0 ≤ hn G114 ∧ s0 ≤ hs G114 := by omega
        replace hM : hn G114 ≤ hn GG ∧ hs G114 ≤ hs GG := by omega
        refine lv_aload_n hx hb dL_law_373 rfl (lv_at hL 2 rfl) ?_
        rw [← rv_ne hq2]
        refine lv_aload_n hx hb dL_law_374 rfl (lv_at hL 0 rfl) ?_
        refine lv_iload_n hx hb dL_law_375 rfl (lv_at hL 3 rfl) ?_
        refine lv_iconst (v := 1) hx hb dL_law_376 (by decide) ?_
        refine lv_iadd hx hb dL_law_377 ?_
        obtain ⟨g116, hd⟩ := gd_ex hd
        refine r_sld C hX hbl dL_law_378 hS g116 ?_
        refine lv_aload_n hx hb dL_law_379 rfl (lv_at hL 0 rfl) ?_
        refine lv_iload_n hx hb dL_law_380 rfl (lv_at hL 3 rfl) ?_
        refine lv_iconst (v := 2) hx hb dL_law_381 (by decide) ?_
        refine lv_iadd hx hb dL_law_382 ?_
        obtain ⟨g117, hd⟩ := gd_ex hd
        refine r_sld C hX hbl dL_law_383 hS g117 ?_
        obtain ⟨g118, hd⟩ := gd_ex hd
        obtain ⟨v120, G121, h119, hd⟩ := b2_ex hd
        obtain ⟨g122, hd⟩ := gd_ex hd
        refine r_callV (a := x2) (ci := 9) (As := [.int (xs (x3 + 1).toNatClampNeg), .int (xs (x3 + 2).toNatClampNeg)]) C (ct_X9_send h119) mf_X9_send ml_L_56 mv_X9_send rfl ⟨Nat.le_of_ble_eq_true rfl, Nat.le_of_ble_eq_true rfl⟩ dL_law_384 hL.1 rfl hR hS g118 ⟨by show hn G114 - n0 ≤ 600000; omega, by show hs G114 - s0 ≤ 7302250; omega⟩ (cat_le [.inl v113] (Nat.le_of_ble_eq_true rfl)) (fun H locs hR hS => ?_)
        refine W_st (st2 := [.int v120, .int v113]) rfl ?_
        refine W_cs (c2 := hn G121 - n0) (s2 := hs G121 - s0) (by first | rfl | omega) (by first | rfl | omega) ?_
        replace hB : b0 ≤ hn G121 := by omega
        replace hZ : n0 ≤ hn G121 ∧ s0 ≤ hs G121 := by omega
        replace hM : hn G121 ≤ hn GG ∧ hs G121 ≤ hs GG := by omega
        refine lv_icmp_eq (tgt := 818) hx hb dL_law_387 (by decide) (fun c123 => ?_) (fun c123 => ?_)
        · rw [if_pos c123] at hd
          refine lv_iinc (lv' := [(3, .int (x3 + 6)), (0, .ref b), (1, .ref x1), (2, .ref x2)]) (k := 3) hx hb dL_law_818 hL rfl rfl (by decide) rfl (fun ls hL => ?_)
          refine lv_goto (tgt := 28) hx hb dL_law_821 (by decide) ?_
          exact ih hq1 hq2 (lv_sub hL [1, 2, 3, 0] rfl) hR hS hB hZ hd
        · rw [if_neg c123] at hd
          refine lv_iconst (v := 0) hx hb dL_law_390 (by decide) ?_
          exact absurd (Prod.mk.inj (Option.some.inj hd)).1 (by decide)
      rw [if_neg c3_7] at hd
      by_cases c3_8 : ((xs x3.toNatClampNeg) &&& 31) = 8
      · rw [if_pos c3_8] at hd
        rw [c3_8]
        refine lv_tableIn (tgt := 392) hx hb dL_law_43 (by decide) (by decide) rfl (by decide) ?_
        refine lv_aload_n hx hb dL_law_392 rfl (lv_at hL 1 rfl) ?_
        rw [← rv_ne hq1]
        refine lv_aload_n hx hb dL_law_393 rfl (lv_at hL 0 rfl) ?_
        refine lv_iload_n hx hb dL_law_394 rfl (lv_at hL 3 rfl) ?_
        refine lv_iconst (v := 1) hx hb dL_law_395 (by decide) ?_
        refine lv_iadd hx hb dL_law_396 ?_
        obtain ⟨g124, hd⟩ := gd_ex hd
        refine r_sld C hX hbl dL_law_397 hS g124 ?_
        refine lv_aload_n hx hb dL_law_398 rfl (lv_at hL 0 rfl) ?_
        refine lv_iload_n hx hb dL_law_399 rfl (lv_at hL 3 rfl) ?_
        refine lv_iconst (v := 2) hx hb dL_law_400 (by decide) ?_
        refine lv_iadd hx hb dL_law_401 ?_
        obtain ⟨g125, hd⟩ := gd_ex hd
        refine r_sld C hX hbl dL_law_402 hS g125 ?_
        obtain ⟨g126, hd⟩ := gd_ex hd
        obtain ⟨v128, G129, h127, hd⟩ := b2_ex hd
        obtain ⟨g130, hd⟩ := gd_ex hd
        refine r_callV (a := x1) (ci := 8) (As := [.int (xs (x3 + 1).toNatClampNeg), .int (xs (x3 + 2).toNatClampNeg)]) C (ct_X8_lose h127) mf_X8_lose ml_L_57 mv_X8_lose rfl ⟨Nat.le_of_ble_eq_true rfl, Nat.le_of_ble_eq_true rfl⟩ dL_law_403 hL.1 rfl hR hS g126 ⟨by show hn G - n0 ≤ 600000; omega, by show hs G - s0 ≤ 7302250; omega⟩ (cat_le [] (Nat.le_of_ble_eq_true rfl)) (fun H locs hR hS => ?_)
        refine W_st (st2 := [.int v128]) rfl ?_
        refine W_cs (c2 := hn G129 - n0) (s2 := hs G129 - s0) (by first | rfl | omega) (by first | rfl | omega) ?_
        replace hB : b0 ≤ hn G129 := by omega
        replace hZ : n0 ≤ hn G129 ∧ s0 ≤ hs G129 := by omega
        replace hM : hn G129 ≤ hn GG ∧ hs G129 ≤ hs GG := by omega
        refine lv_aload_n hx hb dL_law_406 rfl (lv_at hL 2 rfl) ?_
        rw [← rv_ne hq2]
        refine lv_aload_n hx hb dL_law_407 rfl (lv_at hL 0 rfl) ?_
        refine lv_iload_n hx hb dL_law_408 rfl (lv_at hL 3 rfl) ?_
        refine lv_iconst (v := 1) hx hb dL_law_409 (by decide) ?_
        refine lv_iadd hx hb dL_law_410 ?_
        obtain ⟨g131, hd⟩ := gd_ex hd
        refine r_sld C hX hbl dL_law_411 hS g131 ?_
        refine lv_aload_n hx hb dL_law_412 rfl (lv_at hL 0 rfl) ?_
        refine lv_iload_n hx hb dL_law_413 rfl (lv_at hL 3 rfl) ?_
        refine lv_iconst (v := 2) hx hb dL_law_414 (by decide) ?_
        refine lv_iadd hx hb dL_law_415 ?_
        obtain ⟨g132, hd⟩ := gd_ex hd
        refine r_sld C hX hbl dL_law_416 hS g132 ?_
        obtain ⟨g133, hd⟩ := gd_ex hd
        obtain ⟨v135, G136, h134, hd⟩ := b2_ex hd
        obtain ⟨g137, hd⟩ := gd_ex hd
        refine r_callV (a := x2) (ci := 9) (As := [.int (xs (x3 + 1).toNatClampNeg), .int (xs (x3 + 2).toNatClampNeg)]) C (ct_X9_lose h134) mf_X9_lose ml_L_60 mv_X9_lose rfl ⟨Nat.le_of_ble_eq_true rfl, Nat.le_of_ble_eq_true rfl⟩ dL_law_417 hL.1 rfl hR hS g133 ⟨by show hn G129 - n0 ≤ 600000; omega, by show hs G129 - s0 ≤ 7302250; omega⟩ (cat_le [.inl v128] (Nat.le_of_ble_eq_true rfl)) (fun H locs hR hS => ?_)
        refine W_st (st2 := [.int v135, .int v128]) rfl ?_
        refine W_cs (c2 := hn G136 - n0) (s2 := hs G136 - s0) (by first | rfl | omega) (by first | rfl | omega) ?_
        replace hB : b0 ≤ hn G136 := by omega
        replace hZ : n0 ≤ hn G136 ∧ s0 ≤ hs G136 := by omega
        replace hM : hn G136 ≤ hn GG ∧ hs G136 ≤ hs GG := by omega
        refine lv_icmp_eq (tgt := 818) hx hb dL_law_420 (by decide) (fun c138 => ?_) (fun c138 => ?_)
        · rw [if_pos c138] at hd
          refine lv_iinc (lv' := [(3, .int (x3 + 6)), (0, .ref b), (1, .ref x1), (2, .ref x2)]) (k := 3) hx hb dL_law_818 hL rfl rfl (by decide) rfl (fun ls hL => ?_)
          refine lv_goto (tgt := 28) hx hb dL_law_821 (by decide) ?_
          exact ih hq1 hq2 (lv_sub hL [1, 2, 3, 0] rfl) hR hS hB hZ hd
        · rw [if_neg c138] at hd
          refine lv_iconst (v := 0) hx hb dL_law_423 (by decide) ?_
          exact absurd (Prod.mk.inj (Option.some.inj hd)).1 (by decide)
      rw [if_neg c3_8] at hd
      by_cases c3_9 : ((xs x3.toNatClampNeg) &&& 31) = 9
      · rw [if_pos c3_9] at hd
        rw [c3_9]
        refine lv_tableIn (tgt := 425) hx hb dL_law_43 (by decide) (by decide) rfl (by decide) ?_
        refine lv_aload_n hx hb dL_law_425 rfl (lv_at hL 1 rfl) ?_
        rw [← rv_ne hq1]
        refine lv_aload_n hx hb dL_law_426 rfl (lv_at hL 0 rfl) ?_
        refine lv_iload_n hx hb dL_law_427 rfl (lv_at hL 3 rfl) ?_
        refine lv_iconst (v := 1) hx hb dL_law_428 (by decide) ?_
        refine lv_iadd hx hb dL_law_429 ?_
        obtain ⟨g139, hd⟩ := gd_ex hd
        refine r_sld C hX hbl dL_law_430 hS g139 ?_
        obtain ⟨g140, hd⟩ := gd_ex hd
        obtain ⟨v142, G143, h141, hd⟩ := b2_ex hd
        obtain ⟨g144, hd⟩ := gd_ex hd
        refine r_callV (a := x1) (ci := 8) (As := [.int (xs (x3 + 1).toNatClampNeg)]) C (ct_X8_tick h141) mf_X8_tick ml_L_61 mv_X8_tick rfl ⟨Nat.le_of_ble_eq_true rfl, Nat.le_of_ble_eq_true rfl⟩ dL_law_431 hL.1 rfl hR hS g140 ⟨by show hn G - n0 ≤ 600000; omega, by show hs G - s0 ≤ 7302250; omega⟩ (cat_le [] (Nat.le_of_ble_eq_true rfl)) (fun H locs hR hS => ?_)
        refine W_st (st2 := [.int v142]) rfl ?_
        refine W_cs (c2 := hn G143 - n0) (s2 := hs G143 - s0) (by first | rfl | omega) (by first | rfl | omega) ?_
        replace hB : b0 ≤ hn G143 := by omega
        replace hZ : n0 ≤ hn G143 ∧ s0 ≤ hs G143 := by omega
        replace hM : hn G143 ≤ hn GG ∧ hs G143 ≤ hs GG := by omega
        refine lv_aload_n hx hb dL_law_434 rfl (lv_at hL 2 rfl) ?_
        rw [← rv_ne hq2]
        refine lv_aload_n hx hb dL_law_435 rfl (lv_at hL 0 rfl) ?_
        refine lv_iload_n hx hb dL_law_436 rfl (lv_at hL 3 rfl) ?_
        refine lv_iconst (v := 1) hx hb dL_law_437 (by decide) ?_
        refine lv_iadd hx hb dL_law_438 ?_
        obtain ⟨g145, hd⟩ := gd_ex hd
        refine r_sld C hX hbl dL_law_439 hS g145 ?_
        obtain ⟨g146, hd⟩ := gd_ex hd
        obtain ⟨v148, G149, h147, hd⟩ := b2_ex hd
        obtain ⟨g150, hd⟩ := gd_ex hd
        refine r_callV (a := x2) (ci := 9) (As := [.int (xs (x3 + 1).toNatClampNeg)]) C (ct_X9_tick h147) mf_X9_tick ml_L_65 mv_X9_tick rfl ⟨Nat.le_of_ble_eq_true rfl, Nat.le_of_ble_eq_true rfl⟩ dL_law_440 hL.1 rfl hR hS g146 ⟨by show hn G143 - n0 ≤ 600000; omega, by show hs G143 - s0 ≤ 7302250; omega⟩ (cat_le [.inl v142] (Nat.le_of_ble_eq_true rfl)) (fun H locs hR hS => ?_)
        refine W_st (st2 := [.int v148, .int v142]) rfl ?_
        refine W_cs (c2 := hn G149 - n0) (s2 := hs G149 - s0) (by first | rfl | omega) (by first | rfl | omega) ?_
        replace hB : b0 ≤ hn G149 := by omega
        replace hZ : n0 ≤ hn G149 ∧ s0 ≤ hs G149 := by omega
        replace hM : hn G149 ≤ hn GG ∧ hs G149 ≤ hs GG := by omega
        refine lv_icmp_eq (tgt := 818) hx hb dL_law_443 (by decide) (fun c151 => ?_) (fun c151 => ?_)
        · rw [if_pos c151] at hd
          refine lv_iinc (lv' := [(3, .int (x3 + 6)), (0, .ref b), (1, .ref x1), (2, .ref x2)]) (k := 3) hx hb dL_law_818 hL rfl rfl (by decide) rfl (fun ls hL => ?_)
          refine lv_goto (tgt := 28) hx hb dL_law_821 (by decide) ?_
          exact ih hq1 hq2 (lv_sub hL [1, 2, 3, 0] rfl) hR hS hB hZ hd
        · rw [if_neg c151] at hd
          refine lv_iconst (v := 0) hx hb dL_law_446 (by decide) ?_
          exact absurd (Prod.mk.inj (Option.some.inj hd)).1 (by decide)
      rw [if_neg c3_9] at hd
      by_cases c3_10 : ((xs x3.toNatClampNeg) &&& 31) = 10
      · rw [if_pos c3_10] at hd
        rw [c3_10]
        refine lv_tableIn (tgt := 448) hx hb dL_law_43 (by decide) (by decide) rfl (by decide) ?_
        refine lv_aload_n hx hb dL_law_448 rfl (lv_at hL 1 rfl) ?_
        rw [← rv_ne hq1]
        refine lv_aload_n hx hb dL_law_449 rfl (lv_at hL 0 rfl) ?_
        refine lv_iload_n hx hb dL_law_450 rfl (lv_at hL 3 rfl) ?_
        refine lv_iconst (v := 1) hx hb dL_law_451 (by decide) ?_
        refine lv_iadd hx hb dL_law_452 ?_
        obtain ⟨g152, hd⟩ := gd_ex hd
        refine r_sld C hX hbl dL_law_453 hS g152 ?_
        refine lv_aload_n hx hb dL_law_454 rfl (lv_at hL 0 rfl) ?_
        refine lv_iload_n hx hb dL_law_455 rfl (lv_at hL 3 rfl) ?_
        refine lv_iconst (v := 2) hx hb dL_law_456 (by decide) ?_
        refine lv_iadd hx hb dL_law_457 ?_
        obtain ⟨g153, hd⟩ := gd_ex hd
        refine r_sld C hX hbl dL_law_458 hS g153 ?_
        obtain ⟨g154, hd⟩ := gd_ex hd
        obtain ⟨v156, h155, hd⟩ := bo_ex hd
        refine r_callV (a := x1) (ci := 8) (As := [.int (xs (x3 + 1).toNatClampNeg), .int (xs (x3 + 2).toNatClampNeg)]) C (ct_X8_got h155) mf_X8_got ml_L_66 mv_X8_got rfl ⟨Nat.le_of_ble_eq_true rfl, Nat.le_of_ble_eq_true rfl⟩ dL_law_459 hL.1 rfl hR hS g154 ⟨by show hn G - n0 ≤ 600000; omega, by show hs G - s0 ≤ 7302250; omega⟩ (cat_le [] (Nat.le_of_ble_eq_true rfl)) (fun H locs hR hS => ?_)
        refine W_st (st2 := [.int v156]) rfl ?_
        refine W_cs (c2 := hn G - n0) (s2 := hs G - s0) (by first | rfl | omega) (by first | rfl | omega) ?_
        refine lv_aload_n hx hb dL_law_462 rfl (lv_at hL 2 rfl) ?_
        rw [← rv_ne hq2]
        refine lv_aload_n hx hb dL_law_463 rfl (lv_at hL 0 rfl) ?_
        refine lv_iload_n hx hb dL_law_464 rfl (lv_at hL 3 rfl) ?_
        refine lv_iconst (v := 1) hx hb dL_law_465 (by decide) ?_
        refine lv_iadd hx hb dL_law_466 ?_
        obtain ⟨g157, hd⟩ := gd_ex hd
        refine r_sld C hX hbl dL_law_467 hS g157 ?_
        refine lv_aload_n hx hb dL_law_468 rfl (lv_at hL 0 rfl) ?_
        refine lv_iload_n hx hb dL_law_469 rfl (lv_at hL 3 rfl) ?_
        refine lv_iconst (v := 2) hx hb dL_law_470 (by decide) ?_
        refine lv_iadd hx hb dL_law_471 ?_
        obtain ⟨g158, hd⟩ := gd_ex hd
        refine r_sld C hX hbl dL_law_472 hS g158 ?_
        obtain ⟨g159, hd⟩ := gd_ex hd
        obtain ⟨v161, h160, hd⟩ := bo_ex hd
        refine r_callV (a := x2) (ci := 9) (As := [.int (xs (x3 + 1).toNatClampNeg), .int (xs (x3 + 2).toNatClampNeg)]) C (ct_X9_got h160) mf_X9_got ml_L_69 mv_X9_got rfl ⟨Nat.le_of_ble_eq_true rfl, Nat.le_of_ble_eq_true rfl⟩ dL_law_473 hL.1 rfl hR hS g159 ⟨by show hn G - n0 ≤ 600000; omega, by show hs G - s0 ≤ 7302250; omega⟩ (cat_le [.inl v156] (Nat.le_of_ble_eq_true rfl)) (fun H locs hR hS => ?_)
        refine W_st (st2 := [.int v161, .int v156]) rfl ?_
        refine W_cs (c2 := hn G - n0) (s2 := hs G - s0) (by first | rfl | omega) (by first | rfl | omega) ?_
        refine lv_icmp_eq (tgt := 818) hx hb dL_law_476 (by decide) (fun c162 => ?_) (fun c162 => ?_)
        · rw [if_pos c162] at hd
          refine lv_iinc (lv' := [(3, .int (x3 + 6)), (0, .ref b), (1, .ref x1), (2, .ref x2)]) (k := 3) hx hb dL_law_818 hL rfl rfl (by decide) rfl (fun ls hL => ?_)
          refine lv_goto (tgt := 28) hx hb dL_law_821 (by decide) ?_
          exact ih hq1 hq2 (lv_sub hL [1, 2, 3, 0] rfl) hR hS hB hZ hd
        · rw [if_neg c162] at hd
          refine lv_iconst (v := 0) hx hb dL_law_479 (by decide) ?_
          exact absurd (Prod.mk.inj (Option.some.inj hd)).1 (by decide)
      rw [if_neg c3_10] at hd
      by_cases c3_11 : ((xs x3.toNatClampNeg) &&& 31) = 11
      · rw [if_pos c3_11] at hd
        rw [c3_11]
        refine lv_tableIn (tgt := 481) hx hb dL_law_43 (by decide) (by decide) rfl (by decide) ?_
        refine lv_aload_n hx hb dL_law_481 rfl (lv_at hL 1 rfl) ?_
        rw [← rv_ne hq1]
        refine lv_aload_n hx hb dL_law_482 rfl (lv_at hL 0 rfl) ?_
        refine lv_iload_n hx hb dL_law_483 rfl (lv_at hL 3 rfl) ?_
        refine lv_iconst (v := 1) hx hb dL_law_484 (by decide) ?_
        refine lv_iadd hx hb dL_law_485 ?_
        obtain ⟨g163, hd⟩ := gd_ex hd
        refine r_sld C hX hbl dL_law_486 hS g163 ?_
        refine lv_aload_n hx hb dL_law_487 rfl (lv_at hL 0 rfl) ?_
        refine lv_iload_n hx hb dL_law_488 rfl (lv_at hL 3 rfl) ?_
        refine lv_iconst (v := 2) hx hb dL_law_489 (by decide) ?_
        refine lv_iadd hx hb dL_law_490 ?_
        obtain ⟨g164, hd⟩ := gd_ex hd
        refine r_sld C hX hbl dL_law_491 hS g164 ?_
        refine lv_aload_n hx hb dL_law_492 rfl (lv_at hL 0 rfl) ?_
        refine lv_iload_n hx hb dL_law_493 rfl (lv_at hL 3 rfl) ?_
        refine lv_iconst (v := 3) hx hb dL_law_494 (by decide) ?_
        refine lv_iadd hx hb dL_law_495 ?_
        obtain ⟨g165, hd⟩ := gd_ex hd
        refine r_sld C hX hbl dL_law_496 hS g165 ?_
        obtain ⟨g166, hd⟩ := gd_ex hd
        obtain ⟨v168, h167, hd⟩ := bo_ex hd
        refine r_callV (a := x1) (ci := 8) (As := [.int (xs (x3 + 1).toNatClampNeg), .int (xs (x3 + 2).toNatClampNeg), .int (xs (x3 + 3).toNatClampNeg)]) C (ct_X8_frame h167) mf_X8_frame ml_L_70 mv_X8_frame rfl ⟨Nat.le_of_ble_eq_true rfl, Nat.le_of_ble_eq_true rfl⟩ dL_law_497 hL.1 rfl hR hS g166 ⟨by show hn G - n0 ≤ 600000; omega, by show hs G - s0 ≤ 7302250; omega⟩ (cat_le [] (Nat.le_of_ble_eq_true rfl)) (fun H locs hR hS => ?_)
        refine W_st (st2 := [.int v168]) rfl ?_
        refine W_cs (c2 := hn G - n0) (s2 := hs G - s0) (by first | rfl | omega) (by first | rfl | omega) ?_
        refine lv_aload_n hx hb dL_law_500 rfl (lv_at hL 2 rfl) ?_
        rw [← rv_ne hq2]
        refine lv_aload_n hx hb dL_law_501 rfl (lv_at hL 0 rfl) ?_
        refine lv_iload_n hx hb dL_law_502 rfl (lv_at hL 3 rfl) ?_
        refine lv_iconst (v := 1) hx hb dL_law_503 (by decide) ?_
        refine lv_iadd hx hb dL_law_504 ?_
        obtain ⟨g169, hd⟩ := gd_ex hd
        refine r_sld C hX hbl dL_law_505 hS g169 ?_
        refine lv_aload_n hx hb dL_law_506 rfl (lv_at hL 0 rfl) ?_
        refine lv_iload_n hx hb dL_law_507 rfl (lv_at hL 3 rfl) ?_
        refine lv_iconst (v := 2) hx hb dL_law_508 (by decide) ?_
        refine lv_iadd hx hb dL_law_509 ?_
        obtain ⟨g170, hd⟩ := gd_ex hd
        refine r_sld C hX hbl dL_law_510 hS g170 ?_
        refine lv_aload_n hx hb dL_law_511 rfl (lv_at hL 0 rfl) ?_
        refine lv_iload_n hx hb dL_law_512 rfl (lv_at hL 3 rfl) ?_
        refine lv_iconst (v := 3) hx hb dL_law_513 (by decide) ?_
        refine lv_iadd hx hb dL_law_514 ?_
        obtain ⟨g171, hd⟩ := gd_ex hd
        refine r_sld C hX hbl dL_law_515 hS g171 ?_
        obtain ⟨g172, hd⟩ := gd_ex hd
        obtain ⟨v174, h173, hd⟩ := bo_ex hd
        refine r_callV (a := x2) (ci := 9) (As := [.int (xs (x3 + 1).toNatClampNeg), .int (xs (x3 + 2).toNatClampNeg), .int (xs (x3 + 3).toNatClampNeg)]) C (ct_X9_frame h173) mf_X9_frame ml_L_74 mv_X9_frame rfl ⟨Nat.le_of_ble_eq_true rfl, Nat.le_of_ble_eq_true rfl⟩ dL_law_516 hL.1 rfl hR hS g172 ⟨by show hn G - n0 ≤ 600000; omega, by show hs G - s0 ≤ 7302250; omega⟩ (cat_le [.inl v168] (Nat.le_of_ble_eq_true rfl)) (fun H locs hR hS => ?_)
        refine W_st (st2 := [.int v174, .int v168]) rfl ?_
        refine W_cs (c2 := hn G - n0) (s2 := hs G - s0) (by first | rfl | omega) (by first | rfl | omega) ?_
        refine lv_icmp_eq (tgt := 818) hx hb dL_law_519 (by decide) (fun c175 => ?_) (fun c175 => ?_)
        · rw [if_pos c175] at hd
          refine lv_iinc (lv' := [(3, .int (x3 + 6)), (0, .ref b), (1, .ref x1), (2, .ref x2)]) (k := 3) hx hb dL_law_818 hL rfl rfl (by decide) rfl (fun ls hL => ?_)
          refine lv_goto (tgt := 28) hx hb dL_law_821 (by decide) ?_
          exact ih hq1 hq2 (lv_sub hL [1, 2, 3, 0] rfl) hR hS hB hZ hd
        · rw [if_neg c175] at hd
          refine lv_iconst (v := 0) hx hb dL_law_522 (by decide) ?_
          exact absurd (Prod.mk.inj (Option.some.inj hd)).1 (by decide)
      rw [if_neg c3_11] at hd
      by_cases c3_12 : ((xs x3.toNatClampNeg) &&& 31) = 12
      · rw [if_pos c3_12] at hd
        rw [c3_12]
        refine lv_tableIn (tgt := 524) hx hb dL_law_43 (by decide) (by decide) rfl (by decide) ?_
        refine lv_aload_n hx hb dL_law_524 rfl (lv_at hL 1 rfl) ?_
        rw [← rv_ne hq1]
        refine lv_aload_n hx hb dL_law_525 rfl (lv_at hL 0 rfl) ?_
        refine lv_iload_n hx hb dL_law_526 rfl (lv_at hL 3 rfl) ?_
        refine lv_iconst (v := 1) hx hb dL_law_527 (by decide) ?_
        refine lv_iadd hx hb dL_law_528 ?_
        obtain ⟨g176, hd⟩ := gd_ex hd
        refine r_sld C hX hbl dL_law_529 hS g176 ?_
        refine lv_aload_n hx hb dL_law_530 rfl (lv_at hL 0 rfl) ?_
        refine lv_iload_n hx hb dL_law_531 rfl (lv_at hL 3 rfl) ?_
        refine lv_iconst (v := 2) hx hb dL_law_532 (by decide) ?_
        refine lv_iadd hx hb dL_law_533 ?_
        obtain ⟨g177, hd⟩ := gd_ex hd
        refine r_sld C hX hbl dL_law_534 hS g177 ?_
        refine lv_if_eq (tgt := 542) hx hb dL_law_535 (by decide) (fun c178 => ?_) (fun c178 => ?_)
        · rw [if_pos c178] at hd
          refine lv_iconst (v := 0) hx hb dL_law_542 (by decide) ?_
          exact k_L_law_543 C hX hbl hB0 hfin (fun y0 y1 y2 Gy H1 locs1 ls1 z0 z1 hL1 hR1 hS1 hB1 hZ1 hd1 => ih z0 z1 hL1 hR1 hS1 hB1 hZ1 hd1) hq1 hq2 (lv_sub hL [0, 1, 2, 3] rfl) hR hS hB hZ hd
        · rw [if_neg c178] at hd
          refine lv_iconst (v := 1) hx hb dL_law_538 (by decide) ?_
          refine lv_goto (tgt := 543) hx hb dL_law_539 (by decide) ?_
          exact k_L_law_543 C hX hbl hB0 hfin (fun y0 y1 y2 Gy H1 locs1 ls1 z0 z1 hL1 hR1 hS1 hB1 hZ1 hd1 => ih z0 z1 hL1 hR1 hS1 hB1 hZ1 hd1) hq1 hq2 (lv_sub hL [0, 1, 2, 3] rfl) hR hS hB hZ hd
      rw [if_neg c3_12] at hd
      by_cases c3_13 : ((xs x3.toNatClampNeg) &&& 31) = 13
      · rw [if_pos c3_13] at hd
        rw [c3_13]
        refine lv_tableIn (tgt := 593) hx hb dL_law_43 (by decide) (by decide) rfl (by decide) ?_
        refine lv_aload_n hx hb dL_law_593 rfl (lv_at hL 1 rfl) ?_
        rw [← rv_ne hq1]
        refine lv_aload_n hx hb dL_law_594 rfl (lv_at hL 0 rfl) ?_
        refine lv_iload_n hx hb dL_law_595 rfl (lv_at hL 3 rfl) ?_
        refine lv_iconst (v := 1) hx hb dL_law_596 (by decide) ?_
        refine lv_iadd hx hb dL_law_597 ?_
        obtain ⟨g179, hd⟩ := gd_ex hd
        refine r_sld C hX hbl dL_law_598 hS g179 ?_
        refine lv_aload_n hx hb dL_law_599 rfl (lv_at hL 0 rfl) ?_
        refine lv_iload_n hx hb dL_law_600 rfl (lv_at hL 3 rfl) ?_
        refine lv_iconst (v := 2) hx hb dL_law_601 (by decide) ?_
        refine lv_iadd hx hb dL_law_602 ?_
        obtain ⟨g180, hd⟩ := gd_ex hd
        refine r_sld C hX hbl dL_law_603 hS g180 ?_
        refine lv_aload_n hx hb dL_law_604 rfl (lv_at hL 0 rfl) ?_
        refine lv_iload_n hx hb dL_law_605 rfl (lv_at hL 3 rfl) ?_
        refine lv_iconst (v := 3) hx hb dL_law_606 (by decide) ?_
        refine lv_iadd hx hb dL_law_607 ?_
        obtain ⟨g181, hd⟩ := gd_ex hd
        refine r_sld C hX hbl dL_law_608 hS g181 ?_
        obtain ⟨g182, hd⟩ := gd_ex hd
        obtain ⟨v184, h183, hd⟩ := bo_ex hd
        refine r_callV (a := x1) (ci := 8) (As := [.int (xs (x3 + 1).toNatClampNeg), .int (xs (x3 + 2).toNatClampNeg), .int (xs (x3 + 3).toNatClampNeg)]) C (ct_X8_port h183) mf_X8_port ml_L_80 mv_X8_port rfl ⟨Nat.le_of_ble_eq_true rfl, Nat.le_of_ble_eq_true rfl⟩ dL_law_609 hL.1 rfl hR hS g182 ⟨by show hn G - n0 ≤ 600000; omega, by show hs G - s0 ≤ 7302250; omega⟩ (cat_le [] (Nat.le_of_ble_eq_true rfl)) (fun H locs hR hS => ?_)
        refine W_st (st2 := [.int v184]) rfl ?_
        refine W_cs (c2 := hn G - n0) (s2 := hs G - s0) (by first | rfl | omega) (by first | rfl | omega) ?_
        refine lv_aload_n hx hb dL_law_612 rfl (lv_at hL 2 rfl) ?_
        rw [← rv_ne hq2]
        refine lv_aload_n hx hb dL_law_613 rfl (lv_at hL 0 rfl) ?_
        refine lv_iload_n hx hb dL_law_614 rfl (lv_at hL 3 rfl) ?_
        refine lv_iconst (v := 1) hx hb dL_law_615 (by decide) ?_
        refine lv_iadd hx hb dL_law_616 ?_
        obtain ⟨g185, hd⟩ := gd_ex hd
        refine r_sld C hX hbl dL_law_617 hS g185 ?_
        refine lv_aload_n hx hb dL_law_618 rfl (lv_at hL 0 rfl) ?_
        refine lv_iload_n hx hb dL_law_619 rfl (lv_at hL 3 rfl) ?_
        refine lv_iconst (v := 2) hx hb dL_law_620 (by decide) ?_
        refine lv_iadd hx hb dL_law_621 ?_
        obtain ⟨g186, hd⟩ := gd_ex hd
        refine r_sld C hX hbl dL_law_622 hS g186 ?_
        refine lv_aload_n hx hb dL_law_623 rfl (lv_at hL 0 rfl) ?_
        refine lv_iload_n hx hb dL_law_624 rfl (lv_at hL 3 rfl) ?_
        refine lv_iconst (v := 3) hx hb dL_law_625 (by decide) ?_
        refine lv_iadd hx hb dL_law_626 ?_
        obtain ⟨g187, hd⟩ := gd_ex hd
        refine r_sld C hX hbl dL_law_627 hS g187 ?_
        obtain ⟨g188, hd⟩ := gd_ex hd
        obtain ⟨v190, h189, hd⟩ := bo_ex hd
        refine r_callV (a := x2) (ci := 9) (As := [.int (xs (x3 + 1).toNatClampNeg), .int (xs (x3 + 2).toNatClampNeg), .int (xs (x3 + 3).toNatClampNeg)]) C (ct_X9_port h189) mf_X9_port ml_L_83 mv_X9_port rfl ⟨Nat.le_of_ble_eq_true rfl, Nat.le_of_ble_eq_true rfl⟩ dL_law_628 hL.1 rfl hR hS g188 ⟨by show hn G - n0 ≤ 600000; omega, by show hs G - s0 ≤ 7302250; omega⟩ (cat_le [.inl v184] (Nat.le_of_ble_eq_true rfl)) (fun H locs hR hS => ?_)
        refine W_st (st2 := [.int v190, .int v184]) rfl ?_
        refine W_cs (c2 := hn G - n0) (s2 := hs G - s0) (by first | rfl | omega) (by first | rfl | omega) ?_
        refine lv_icmp_eq (tgt := 818) hx hb dL_law_631 (by decide) (fun c191 => ?_) (fun c191 => ?_)
        · rw [if_pos c191] at hd
          refine lv_iinc (lv' := [(3, .int (x3 + 6)), (0, .ref b), (1, .ref x1), (2, .ref x2)]) (k := 3) hx hb dL_law_818 hL rfl rfl (by decide) rfl (fun ls hL => ?_)
          refine lv_goto (tgt := 28) hx hb dL_law_821 (by decide) ?_
          exact ih hq1 hq2 (lv_sub hL [1, 2, 3, 0] rfl) hR hS hB hZ hd
        · rw [if_neg c191] at hd
          refine lv_iconst (v := 0) hx hb dL_law_634 (by decide) ?_
          exact absurd (Prod.mk.inj (Option.some.inj hd)).1 (by decide)
      rw [if_neg c3_13] at hd
      by_cases c3_14 : ((xs x3.toNatClampNeg) &&& 31) = 14
      · rw [if_pos c3_14] at hd
        rw [c3_14]
        refine lv_tableIn (tgt := 636) hx hb dL_law_43 (by decide) (by decide) rfl (by decide) ?_
        refine lv_aload_n hx hb dL_law_636 rfl (lv_at hL 1 rfl) ?_
        rw [← rv_ne hq1]
        refine lv_aload_n hx hb dL_law_637 rfl (lv_at hL 0 rfl) ?_
        refine lv_iload_n hx hb dL_law_638 rfl (lv_at hL 3 rfl) ?_
        refine lv_iconst (v := 1) hx hb dL_law_639 (by decide) ?_
        refine lv_iadd hx hb dL_law_640 ?_
        obtain ⟨g192, hd⟩ := gd_ex hd
        refine r_sld C hX hbl dL_law_641 hS g192 ?_
        refine lv_aload_n hx hb dL_law_642 rfl (lv_at hL 0 rfl) ?_
        refine lv_iload_n hx hb dL_law_643 rfl (lv_at hL 3 rfl) ?_
        refine lv_iconst (v := 2) hx hb dL_law_644 (by decide) ?_
        refine lv_iadd hx hb dL_law_645 ?_
        obtain ⟨g193, hd⟩ := gd_ex hd
        refine r_sld C hX hbl dL_law_646 hS g193 ?_
        refine lv_aload_n hx hb dL_law_647 rfl (lv_at hL 0 rfl) ?_
        refine lv_iload_n hx hb dL_law_648 rfl (lv_at hL 3 rfl) ?_
        refine lv_iconst (v := 3) hx hb dL_law_649 (by decide) ?_
        refine lv_iadd hx hb dL_law_650 ?_
        obtain ⟨g194, hd⟩ := gd_ex hd
        refine r_sld C hX hbl dL_law_651 hS g194 ?_
        obtain ⟨g195, hd⟩ := gd_ex hd
        obtain ⟨v197, h196, hd⟩ := bo_ex hd
        refine r_callV (a := x1) (ci := 8) (As := [.int (xs (x3 + 1).toNatClampNeg), .int (xs (x3 + 2).toNatClampNeg), .int (xs (x3 + 3).toNatClampNeg)]) C (ct_X8_members h196) mf_X8_members ml_L_84 mv_X8_members rfl ⟨Nat.le_of_ble_eq_true rfl, Nat.le_of_ble_eq_true rfl⟩ dL_law_652 hL.1 rfl hR hS g195 ⟨by show hn G - n0 ≤ 600000; omega, by show hs G - s0 ≤ 7302250; omega⟩ (cat_le [] (Nat.le_of_ble_eq_true rfl)) (fun H locs hR hS => ?_)
        refine W_st (st2 := [.int v197]) rfl ?_
        refine W_cs (c2 := hn G - n0) (s2 := hs G - s0) (by first | rfl | omega) (by first | rfl | omega) ?_
        refine lv_aload_n hx hb dL_law_655 rfl (lv_at hL 2 rfl) ?_
        rw [← rv_ne hq2]
        refine lv_aload_n hx hb dL_law_656 rfl (lv_at hL 0 rfl) ?_
        refine lv_iload_n hx hb dL_law_657 rfl (lv_at hL 3 rfl) ?_
        refine lv_iconst (v := 1) hx hb dL_law_658 (by decide) ?_
        refine lv_iadd hx hb dL_law_659 ?_
        obtain ⟨g198, hd⟩ := gd_ex hd
        refine r_sld C hX hbl dL_law_660 hS g198 ?_
        refine lv_aload_n hx hb dL_law_661 rfl (lv_at hL 0 rfl) ?_
        refine lv_iload_n hx hb dL_law_662 rfl (lv_at hL 3 rfl) ?_
        refine lv_iconst (v := 2) hx hb dL_law_663 (by decide) ?_
        refine lv_iadd hx hb dL_law_664 ?_
        obtain ⟨g199, hd⟩ := gd_ex hd
        refine r_sld C hX hbl dL_law_665 hS g199 ?_
        refine lv_aload_n hx hb dL_law_666 rfl (lv_at hL 0 rfl) ?_
        refine lv_iload_n hx hb dL_law_667 rfl (lv_at hL 3 rfl) ?_
        refine lv_iconst (v := 3) hx hb dL_law_668 (by decide) ?_
        refine lv_iadd hx hb dL_law_669 ?_
        obtain ⟨g200, hd⟩ := gd_ex hd
        refine r_sld C hX hbl dL_law_670 hS g200 ?_
        obtain ⟨g201, hd⟩ := gd_ex hd
        obtain ⟨v203, h202, hd⟩ := bo_ex hd
        refine r_callV (a := x2) (ci := 9) (As := [.int (xs (x3 + 1).toNatClampNeg), .int (xs (x3 + 2).toNatClampNeg), .int (xs (x3 + 3).toNatClampNeg)]) C (ct_X9_members h202) mf_X9_members ml_L_87 mv_X9_members rfl ⟨Nat.le_of_ble_eq_true rfl, Nat.le_of_ble_eq_true rfl⟩ dL_law_671 hL.1 rfl hR hS g201 ⟨by show hn G - n0 ≤ 600000; omega, by show hs G - s0 ≤ 7302250; omega⟩ (cat_le [.inl v197] (Nat.le_of_ble_eq_true rfl)) (fun H locs hR hS => ?_)
        refine W_st (st2 := [.int v203, .int v197]) rfl ?_
        refine W_cs (c2 := hn G - n0) (s2 := hs G - s0) (by first | rfl | omega) (by first | rfl | omega) ?_
        refine lv_icmp_eq (tgt := 818) hx hb dL_law_674 (by decide) (fun c204 => ?_) (fun c204 => ?_)
        · rw [if_pos c204] at hd
          refine lv_iinc (lv' := [(3, .int (x3 + 6)), (0, .ref b), (1, .ref x1), (2, .ref x2)]) (k := 3) hx hb dL_law_818 hL rfl rfl (by decide) rfl (fun ls hL => ?_)
          refine lv_goto (tgt := 28) hx hb dL_law_821 (by decide) ?_
          exact ih hq1 hq2 (lv_sub hL [1, 2, 3, 0] rfl) hR hS hB hZ hd
        · rw [if_neg c204] at hd
          refine lv_iconst (v := 0) hx hb dL_law_677 (by decide) ?_
          exact absurd (Prod.mk.inj (Option.some.inj hd)).1 (by decide)
      rw [if_neg c3_14] at hd
      by_cases c3_15 : ((xs x3.toNatClampNeg) &&& 31) = 15
      · rw [if_pos c3_15] at hd
        rw [c3_15]
        refine lv_tableIn (tgt := 679) hx hb dL_law_43 (by decide) (by decide) rfl (by decide) ?_
        refine lv_aload_n hx hb dL_law_679 rfl (lv_at hL 1 rfl) ?_
        rw [← rv_ne hq1]
        refine lv_aload_n hx hb dL_law_680 rfl (lv_at hL 0 rfl) ?_
        refine lv_iload_n hx hb dL_law_681 rfl (lv_at hL 3 rfl) ?_
        refine lv_iconst (v := 1) hx hb dL_law_682 (by decide) ?_
        refine lv_iadd hx hb dL_law_683 ?_
        obtain ⟨g205, hd⟩ := gd_ex hd
        refine r_sld C hX hbl dL_law_684 hS g205 ?_
        refine lv_aload_n hx hb dL_law_685 rfl (lv_at hL 0 rfl) ?_
        refine lv_iload_n hx hb dL_law_686 rfl (lv_at hL 3 rfl) ?_
        refine lv_iconst (v := 2) hx hb dL_law_687 (by decide) ?_
        refine lv_iadd hx hb dL_law_688 ?_
        obtain ⟨g206, hd⟩ := gd_ex hd
        refine r_sld C hX hbl dL_law_689 hS g206 ?_
        refine lv_aload_n hx hb dL_law_690 rfl (lv_at hL 0 rfl) ?_
        refine lv_iload_n hx hb dL_law_691 rfl (lv_at hL 3 rfl) ?_
        refine lv_iconst (v := 3) hx hb dL_law_692 (by decide) ?_
        refine lv_iadd hx hb dL_law_693 ?_
        obtain ⟨g207, hd⟩ := gd_ex hd
        refine r_sld C hX hbl dL_law_694 hS g207 ?_
        refine lv_aload_n hx hb dL_law_695 rfl (lv_at hL 0 rfl) ?_
        refine lv_iload_n hx hb dL_law_696 rfl (lv_at hL 3 rfl) ?_
        refine lv_iconst (v := 4) hx hb dL_law_697 (by decide) ?_
        refine lv_iadd hx hb dL_law_698 ?_
        obtain ⟨g208, hd⟩ := gd_ex hd
        refine r_sld C hX hbl dL_law_699 hS g208 ?_
        refine lv_aload_n hx hb dL_law_700 rfl (lv_at hL 0 rfl) ?_
        refine lv_iload_n hx hb dL_law_701 rfl (lv_at hL 3 rfl) ?_
        refine lv_iconst (v := 5) hx hb dL_law_702 (by decide) ?_
        refine lv_iadd hx hb dL_law_703 ?_
        obtain ⟨g209, hd⟩ := gd_ex hd
        refine r_sld C hX hbl dL_law_704 hS g209 ?_
        obtain ⟨g210, hd⟩ := gd_ex hd
        obtain ⟨v212, G213, h211, hd⟩ := b2_ex hd
        obtain ⟨g214, hd⟩ := gd_ex hd
        refine r_callV (a := x1) (ci := 8) (As := [.int (xs (x3 + 1).toNatClampNeg), .int (xs (x3 + 2).toNatClampNeg), .int (xs (x3 + 3).toNatClampNeg), .int (xs (x3 + 4).toNatClampNeg), .int (xs (x3 + 5).toNatClampNeg)]) C (ct_X8_branch h211) mf_X8_branch ml_L_88 mv_X8_branch rfl ⟨Nat.le_of_ble_eq_true rfl, Nat.le_of_ble_eq_true rfl⟩ dL_law_705 hL.1 rfl hR hS g210 ⟨by show hn G - n0 ≤ 600000; omega, by show hs G - s0 ≤ 7302250; omega⟩ (cat_le [] (Nat.le_of_ble_eq_true rfl)) (fun H locs hR hS => ?_)
        refine W_st (st2 := [.int v212]) rfl ?_
        refine W_cs (c2 := hn G213 - n0) (s2 := hs G213 - s0) (by first | rfl | omega) (by first | rfl | omega) ?_
        replace hB : b0 ≤ hn G213 := by omega
        replace hZ : n0 ≤ hn G213 ∧ s0 ≤ hs G213 := by omega
        replace hM : hn G213 ≤ hn GG ∧ hs G213 ≤ hs GG := by omega
        refine lv_aload_n hx hb dL_law_708 rfl (lv_at hL 2 rfl) ?_
        rw [← rv_ne hq2]
        refine lv_aload_n hx hb dL_law_709 rfl (lv_at hL 0 rfl) ?_
        refine lv_iload_n hx hb dL_law_710 rfl (lv_at hL 3 rfl) ?_
        refine lv_iconst (v := 1) hx hb dL_law_711 (by decide) ?_
        refine lv_iadd hx hb dL_law_712 ?_
        obtain ⟨g215, hd⟩ := gd_ex hd
        refine r_sld C hX hbl dL_law_713 hS g215 ?_
        refine lv_aload_n hx hb dL_law_714 rfl (lv_at hL 0 rfl) ?_
        refine lv_iload_n hx hb dL_law_715 rfl (lv_at hL 3 rfl) ?_
        refine lv_iconst (v := 2) hx hb dL_law_716 (by decide) ?_
        refine lv_iadd hx hb dL_law_717 ?_
        obtain ⟨g216, hd⟩ := gd_ex hd
        refine r_sld C hX hbl dL_law_718 hS g216 ?_
        refine lv_aload_n hx hb dL_law_719 rfl (lv_at hL 0 rfl) ?_
        refine lv_iload_n hx hb dL_law_720 rfl (lv_at hL 3 rfl) ?_
        refine lv_iconst (v := 3) hx hb dL_law_721 (by decide) ?_
        refine lv_iadd hx hb dL_law_722 ?_
        obtain ⟨g217, hd⟩ := gd_ex hd
        refine r_sld C hX hbl dL_law_723 hS g217 ?_
        refine lv_aload_n hx hb dL_law_724 rfl (lv_at hL 0 rfl) ?_
        refine lv_iload_n hx hb dL_law_725 rfl (lv_at hL 3 rfl) ?_
        refine lv_iconst (v := 4) hx hb dL_law_726 (by decide) ?_
        refine lv_iadd hx hb dL_law_727 ?_
        obtain ⟨g218, hd⟩ := gd_ex hd
        refine r_sld C hX hbl dL_law_728 hS g218 ?_
        refine lv_aload_n hx hb dL_law_729 rfl (lv_at hL 0 rfl) ?_
        refine lv_iload_n hx hb dL_law_730 rfl (lv_at hL 3 rfl) ?_
        refine lv_iconst (v := 5) hx hb dL_law_731 (by decide) ?_
        refine lv_iadd hx hb dL_law_732 ?_
        obtain ⟨g219, hd⟩ := gd_ex hd
        refine r_sld C hX hbl dL_law_733 hS g219 ?_
        obtain ⟨g220, hd⟩ := gd_ex hd
        obtain ⟨v222, G223, h221, hd⟩ := b2_ex hd
        obtain ⟨g224, hd⟩ := gd_ex hd
        refine r_callV (a := x2) (ci := 9) (As := [.int (xs (x3 + 1).toNatClampNeg), .int (xs (x3 + 2).toNatClampNeg), .int (xs (x3 + 3).toNatClampNeg), .int (xs (x3 + 4).toNatClampNeg), .int (xs (x3 + 5).toNatClampNeg)]) C (ct_X9_branch h221) mf_X9_branch ml_L_92 mv_X9_branch rfl ⟨Nat.le_of_ble_eq_true rfl, Nat.le_of_ble_eq_true rfl⟩ dL_law_734 hL.1 rfl hR hS g220 ⟨by show hn G213 - n0 ≤ 600000; omega, by show hs G213 - s0 ≤ 7302250; omega⟩ (cat_le [.inl v212] (Nat.le_of_ble_eq_true rfl)) (fun H locs hR hS => ?_)
        refine W_st (st2 := [.int v222, .int v212]) rfl ?_
        refine W_cs (c2 := hn G223 - n0) (s2 := hs G223 - s0) (by first | rfl | omega) (by first | rfl | omega) ?_
        replace hB : b0 ≤ hn G223 := by omega
        replace hZ : n0 ≤ hn G223 ∧ s0 ≤ hs G223 := by omega
        replace hM : hn G223 ≤ hn GG ∧ hs G223 ≤ hs GG := by omega
        refine lv_icmp_eq (tgt := 818) hx hb dL_law_737 (by decide) (fun c225 => ?_) (fun c225 => ?_)
        · rw [if_pos c225] at hd
          refine lv_iinc (lv' := [(3, .int (x3 + 6)), (0, .ref b), (1, .ref x1), (2, .ref x2)]) (k := 3) hx hb dL_law_818 hL rfl rfl (by decide) rfl (fun ls hL => ?_)
          refine lv_goto (tgt := 28) hx hb dL_law_821 (by decide) ?_
          exact ih hq1 hq2 (lv_sub hL [1, 2, 3, 0] rfl) hR hS hB hZ hd
        · rw [if_neg c225] at hd
          refine lv_iconst (v := 0) hx hb dL_law_740 (by decide) ?_
          exact absurd (Prod.mk.inj (Option.some.inj hd)).1 (by decide)
      rw [if_neg c3_15] at hd
      by_cases c3_16 : ((xs x3.toNatClampNeg) &&& 31) = 16
      · rw [if_pos c3_16] at hd
        rw [c3_16]
        refine lv_tableIn (tgt := 742) hx hb dL_law_43 (by decide) (by decide) rfl (by decide) ?_
        refine lv_aload_n hx hb dL_law_742 rfl (lv_at hL 1 rfl) ?_
        rw [← rv_ne hq1]
        refine lv_aload_n hx hb dL_law_743 rfl (lv_at hL 0 rfl) ?_
        refine lv_iload_n hx hb dL_law_744 rfl (lv_at hL 3 rfl) ?_
        refine lv_iconst (v := 1) hx hb dL_law_745 (by decide) ?_
        refine lv_iadd hx hb dL_law_746 ?_
        obtain ⟨g226, hd⟩ := gd_ex hd
        refine r_sld C hX hbl dL_law_747 hS g226 ?_
        refine lv_aload_n hx hb dL_law_748 rfl (lv_at hL 0 rfl) ?_
        refine lv_iload_n hx hb dL_law_749 rfl (lv_at hL 3 rfl) ?_
        refine lv_iconst (v := 2) hx hb dL_law_750 (by decide) ?_
        refine lv_iadd hx hb dL_law_751 ?_
        obtain ⟨g227, hd⟩ := gd_ex hd
        refine r_sld C hX hbl dL_law_752 hS g227 ?_
        refine lv_aload_n hx hb dL_law_753 rfl (lv_at hL 0 rfl) ?_
        refine lv_iload_n hx hb dL_law_754 rfl (lv_at hL 3 rfl) ?_
        refine lv_iconst (v := 3) hx hb dL_law_755 (by decide) ?_
        refine lv_iadd hx hb dL_law_756 ?_
        obtain ⟨g228, hd⟩ := gd_ex hd
        refine r_sld C hX hbl dL_law_757 hS g228 ?_
        refine lv_aload_n hx hb dL_law_758 rfl (lv_at hL 0 rfl) ?_
        refine lv_iload_n hx hb dL_law_759 rfl (lv_at hL 3 rfl) ?_
        refine lv_iconst (v := 4) hx hb dL_law_760 (by decide) ?_
        refine lv_iadd hx hb dL_law_761 ?_
        obtain ⟨g229, hd⟩ := gd_ex hd
        refine r_sld C hX hbl dL_law_762 hS g229 ?_
        obtain ⟨g230, hd⟩ := gd_ex hd
        obtain ⟨v232, G233, h231, hd⟩ := b2_ex hd
        obtain ⟨g234, hd⟩ := gd_ex hd
        refine r_callV (a := x1) (ci := 8) (As := [.int (xs (x3 + 1).toNatClampNeg), .int (xs (x3 + 2).toNatClampNeg), .int (xs (x3 + 3).toNatClampNeg), .int (xs (x3 + 4).toNatClampNeg)]) C (ct_X8_tree h231) mf_X8_tree ml_L_93 mv_X8_tree rfl ⟨Nat.le_of_ble_eq_true rfl, Nat.le_of_ble_eq_true rfl⟩ dL_law_763 hL.1 rfl hR hS g230 ⟨by show hn G - n0 ≤ 600000; omega, by show hs G - s0 ≤ 7302250; omega⟩ (cat_le [] (Nat.le_of_ble_eq_true rfl)) (fun H locs hR hS => ?_)
        refine W_st (st2 := [.int v232]) rfl ?_
        refine W_cs (c2 := hn G233 - n0) (s2 := hs G233 - s0) (by first | rfl | omega) (by first | rfl | omega) ?_
        replace hB : b0 ≤ hn G233 := by omega
        replace hZ : n0 ≤ hn G233 ∧ s0 ≤ hs G233 := by omega
        replace hM : hn G233 ≤ hn GG ∧ hs G233 ≤ hs GG := by omega
        refine lv_aload_n hx hb dL_law_766 rfl (lv_at hL 2 rfl) ?_
        rw [← rv_ne hq2]
        refine lv_aload_n hx hb dL_law_767 rfl (lv_at hL 0 rfl) ?_
        refine lv_iload_n hx hb dL_law_768 rfl (lv_at hL 3 rfl) ?_
        refine lv_iconst (v := 1) hx hb dL_law_769 (by decide) ?_
        refine lv_iadd hx hb dL_law_770 ?_
        obtain ⟨g235, hd⟩ := gd_ex hd
        refine r_sld C hX hbl dL_law_771 hS g235 ?_
        refine lv_aload_n hx hb dL_law_772 rfl (lv_at hL 0 rfl) ?_
        refine lv_iload_n hx hb dL_law_773 rfl (lv_at hL 3 rfl) ?_
        refine lv_iconst (v := 2) hx hb dL_law_774 (by decide) ?_
        refine lv_iadd hx hb dL_law_775 ?_
        obtain ⟨g236, hd⟩ := gd_ex hd
        refine r_sld C hX hbl dL_law_776 hS g236 ?_
        refine lv_aload_n hx hb dL_law_777 rfl (lv_at hL 0 rfl) ?_
        refine lv_iload_n hx hb dL_law_778 rfl (lv_at hL 3 rfl) ?_
        refine lv_iconst (v := 3) hx hb dL_law_779 (by decide) ?_
        refine lv_iadd hx hb dL_law_780 ?_
        obtain ⟨g237, hd⟩ := gd_ex hd
        refine r_sld C hX hbl dL_law_781 hS g237 ?_
        refine lv_aload_n hx hb dL_law_782 rfl (lv_at hL 0 rfl) ?_
        refine lv_iload_n hx hb dL_law_783 rfl (lv_at hL 3 rfl) ?_
        refine lv_iconst (v := 4) hx hb dL_law_784 (by decide) ?_
        refine lv_iadd hx hb dL_law_785 ?_
        obtain ⟨g238, hd⟩ := gd_ex hd
        refine r_sld C hX hbl dL_law_786 hS g238 ?_
        obtain ⟨g239, hd⟩ := gd_ex hd
        obtain ⟨v241, G242, h240, hd⟩ := b2_ex hd
        obtain ⟨g243, hd⟩ := gd_ex hd
        refine r_callV (a := x2) (ci := 9) (As := [.int (xs (x3 + 1).toNatClampNeg), .int (xs (x3 + 2).toNatClampNeg), .int (xs (x3 + 3).toNatClampNeg), .int (xs (x3 + 4).toNatClampNeg)]) C (ct_X9_tree h240) mf_X9_tree ml_L_97 mv_X9_tree rfl ⟨Nat.le_of_ble_eq_true rfl, Nat.le_of_ble_eq_true rfl⟩ dL_law_787 hL.1 rfl hR hS g239 ⟨by show hn G233 - n0 ≤ 600000; omega, by show hs G233 - s0 ≤ 7302250; omega⟩ (cat_le [.inl v232] (Nat.le_of_ble_eq_true rfl)) (fun H locs hR hS => ?_)
        refine W_st (st2 := [.int v241, .int v232]) rfl ?_
        refine W_cs (c2 := hn G242 - n0) (s2 := hs G242 - s0) (by first | rfl | omega) (by first | rfl | omega) ?_
        replace hB : b0 ≤ hn G242 := by omega
        replace hZ : n0 ≤ hn G242 ∧ s0 ≤ hs G242 := by omega
        replace hM : hn G242 ≤ hn GG ∧ hs G242 ≤ hs GG := by omega
        refine lv_icmp_eq (tgt := 818) hx hb dL_law_790 (by decide) (fun c244 => ?_) (fun c244 => ?_)
        · rw [if_pos c244] at hd
          refine lv_iinc (lv' := [(3, .int (x3 + 6)), (0, .ref b), (1, .ref x1), (2, .ref x2)]) (k := 3) hx hb dL_law_818 hL rfl rfl (by decide) rfl (fun ls hL => ?_)
          refine lv_goto (tgt := 28) hx hb dL_law_821 (by decide) ?_
          exact ih hq1 hq2 (lv_sub hL [1, 2, 3, 0] rfl) hR hS hB hZ hd
        · rw [if_neg c244] at hd
          refine lv_iconst (v := 0) hx hb dL_law_793 (by decide) ?_
          exact absurd (Prod.mk.inj (Option.some.inj hd)).1 (by decide)
      rw [if_neg c3_16] at hd
      by_cases c3_17 : ((xs x3.toNatClampNeg) &&& 31) = 17
      · rw [if_pos c3_17] at hd
        rw [c3_17]
        refine lv_tableIn (tgt := 795) hx hb dL_law_43 (by decide) (by decide) rfl (by decide) ?_
        refine lv_aload_n hx hb dL_law_795 rfl (lv_at hL 1 rfl) ?_
        rw [← rv_ne hq1]
        refine lv_aload_n hx hb dL_law_796 rfl (lv_at hL 0 rfl) ?_
        refine lv_iload_n hx hb dL_law_797 rfl (lv_at hL 3 rfl) ?_
        refine lv_iconst (v := 1) hx hb dL_law_798 (by decide) ?_
        refine lv_iadd hx hb dL_law_799 ?_
        obtain ⟨g245, hd⟩ := gd_ex hd
        refine r_sld C hX hbl dL_law_800 hS g245 ?_
        obtain ⟨g246, hd⟩ := gd_ex hd
        obtain ⟨v248, h247, hd⟩ := bo_ex hd
        refine r_callV (a := x1) (ci := 8) (As := [.int (xs (x3 + 1).toNatClampNeg)]) C (ct_X8_count h247) mf_X8_count ml_L_98 mv_X8_count rfl ⟨Nat.le_of_ble_eq_true rfl, Nat.le_of_ble_eq_true rfl⟩ dL_law_801 hL.1 rfl hR hS g246 ⟨by show hn G - n0 ≤ 600000; omega, by show hs G - s0 ≤ 7302250; omega⟩ (cat_le [] (Nat.le_of_ble_eq_true rfl)) (fun H locs hR hS => ?_)
        refine W_st (st2 := [.int v248]) rfl ?_
        refine W_cs (c2 := hn G - n0) (s2 := hs G - s0) (by first | rfl | omega) (by first | rfl | omega) ?_
        refine lv_aload_n hx hb dL_law_804 rfl (lv_at hL 2 rfl) ?_
        rw [← rv_ne hq2]
        refine lv_aload_n hx hb dL_law_805 rfl (lv_at hL 0 rfl) ?_
        refine lv_iload_n hx hb dL_law_806 rfl (lv_at hL 3 rfl) ?_
        refine lv_iconst (v := 1) hx hb dL_law_807 (by decide) ?_
        refine lv_iadd hx hb dL_law_808 ?_
        obtain ⟨g249, hd⟩ := gd_ex hd
        refine r_sld C hX hbl dL_law_809 hS g249 ?_
        obtain ⟨g250, hd⟩ := gd_ex hd
        obtain ⟨v252, h251, hd⟩ := bo_ex hd
        refine r_callV (a := x2) (ci := 9) (As := [.int (xs (x3 + 1).toNatClampNeg)]) C (ct_X9_count h251) mf_X9_count ml_L_101 mv_X9_count rfl ⟨Nat.le_of_ble_eq_true rfl, Nat.le_of_ble_eq_true rfl⟩ dL_law_810 hL.1 rfl hR hS g250 ⟨by show hn G - n0 ≤ 600000; omega, by show hs G - s0 ≤ 7302250; omega⟩ (cat_le [.inl v248] (Nat.le_of_ble_eq_true rfl)) (fun H locs hR hS => ?_)
        refine W_st (st2 := [.int v252, .int v248]) rfl ?_
        refine W_cs (c2 := hn G - n0) (s2 := hs G - s0) (by first | rfl | omega) (by first | rfl | omega) ?_
        refine lv_icmp_eq (tgt := 818) hx hb dL_law_813 (by decide) (fun c253 => ?_) (fun c253 => ?_)
        · rw [if_pos c253] at hd
          refine lv_iinc (lv' := [(3, .int (x3 + 6)), (0, .ref b), (1, .ref x1), (2, .ref x2)]) (k := 3) hx hb dL_law_818 hL rfl rfl (by decide) rfl (fun ls hL => ?_)
          refine lv_goto (tgt := 28) hx hb dL_law_821 (by decide) ?_
          exact ih hq1 hq2 (lv_sub hL [1, 2, 3, 0] rfl) hR hS hB hZ hd
        · rw [if_neg c253] at hd
          refine lv_iconst (v := 0) hx hb dL_law_816 (by decide) ?_
          exact absurd (Prod.mk.inj (Option.some.inj hd)).1 (by decide)
      rw [if_neg c3_17] at hd
      have z_0 := i32_ne c3_0
      have z_1 := i32_ne c3_1
      have z_2 := i32_ne c3_2
      have z_3 := i32_ne c3_3
      have z_4 := i32_ne c3_4
      have z_5 := i32_ne c3_5
      have z_6 := i32_ne c3_6
      have z_7 := i32_ne c3_7
      have z_8 := i32_ne c3_8
      have z_9 := i32_ne c3_9
      have z_10 := i32_ne c3_10
      have z_11 := i32_ne c3_11
      have z_12 := i32_ne c3_12
      have z_13 := i32_ne c3_13
      have z_14 := i32_ne c3_14
      have z_15 := i32_ne c3_15
      have z_16 := i32_ne c3_16
      have z_17 := i32_ne c3_17
      refine lv_tableOut (tgt := 818) hx hb dL_law_43 (by simp only [show ((0 : Int32)).toInt = 0 from rfl, show ((1 : Int32)).toInt = 1 from rfl, show ((2 : Int32)).toInt = 2 from rfl, show ((3 : Int32)).toInt = 3 from rfl, show ((4 : Int32)).toInt = 4 from rfl, show ((5 : Int32)).toInt = 5 from rfl, show ((6 : Int32)).toInt = 6 from rfl, show ((7 : Int32)).toInt = 7 from rfl, show ((8 : Int32)).toInt = 8 from rfl, show ((9 : Int32)).toInt = 9 from rfl, show ((10 : Int32)).toInt = 10 from rfl, show ((11 : Int32)).toInt = 11 from rfl, show ((12 : Int32)).toInt = 12 from rfl, show ((13 : Int32)).toInt = 13 from rfl, show ((14 : Int32)).toInt = 14 from rfl, show ((15 : Int32)).toInt = 15 from rfl, show ((16 : Int32)).toInt = 16 from rfl, show ((17 : Int32)).toInt = 17 from rfl] at z_0 z_1 z_2 z_3 z_4 z_5 z_6 z_7 z_8 z_9 z_10 z_11 z_12 z_13 z_14 z_15 z_16 z_17; omega) (by decide) ?_
      refine lv_iinc (lv' := [(3, .int (x3 + 6)), (0, .ref b), (1, .ref x1), (2, .ref x2)]) (k := 3) hx hb dL_law_818 hL rfl rfl (by decide) rfl (fun ls hL => ?_)
      refine lv_goto (tgt := 28) hx hb dL_law_821 (by decide) ?_
      exact ih hq1 hq2 (lv_sub hL [1, 2, 3, 0] rfl) hR hS hB hZ hd
set_option maxHeartbeats 8000000 in
set_option maxRecDepth 100000 in
theorem k_L_law {b L : Nat} {xs : Nat → Int32} (C : Cx p s m #[Value.ref b] meth c RL cL_law 4 (some .boolean) b0 D E) (hX : va_X b L xs s s.heap) (hbl : b < b0) (hB0 : b0 = s.heap.size) {GG : Hp} {n0 s0 : Nat} (hfin : hn GG - n0 ≤ 600000 ∧ hs GG - s0 ≤ 7302250)  {G : Hp} {ls : Array Slot} {H : Heap} {locs : List Loc} : lv_has ls 4 [(0, .ref b)] → Rp b0 D E G H → SS b0 s H locs → b0 ≤ hn G → (n0 ≤ hn G ∧ s0 ≤ hs G) → d_L_law L xs G = some (1, GG) → W p l e room_1 s m #[Value.ref b] below meth c H locs (hn G - n0) (hs G - s0) (lw_Z below #[Value.ref b] s) (F0 m 0 ls []) := by
  intro hL hR hS hB hZ hd
  unfold d_L_law at hd
  obtain ⟨hM, hd⟩ := mP_ex hd
  have hx := C.1
  have hb := C.2.1
  have hpos : 0 < b0 := C.2.2.2.2.2.2.2.2
  obtain ⟨q1, eq1, hd⟩ := bd_ex hd
  have hbq1 : b0 ≤ q1 := by rw [eq1]; exact hB
  obtain ⟨G2, eG2, hd⟩ := bd_ex hd
  obtain ⟨hM, hd⟩ := mP_ex hd
  have hm1 : hn G2 = hn G + 1 ∧ hs G2 = hs G + 4 := by rw [eG2]; exact ⟨rfl, rfl⟩
  refine r_new (ci := 8) C (by decide) cl_L_7 dL_law_0 hR hS hB hZ ⟨by show hn G + 1 - n0 ≤ 600000; omega, by show hs G + 4 - s0 ≤ 7302250; omega⟩ (fun H locs hR hS => ?_)
  rw [← eq1]
  refine W_cs (c2 := hn G2 - n0) (s2 := hs G2 - s0) (by rw [eG2] <;> rfl) (by rw [eG2] <;> rfl) ?_
  replace hR : Rp b0 D E G2 H := by rw [eG2]; exact hR
  replace hB : b0 ≤ hn G2 := by omega
  replace hZ : n0 ≤ hn G2 ∧ s0 ≤ hs G2 := by omega
  refine lv_dup hx hb dL_law_3 (rv_cat _) ?_
  refine lv_aload_n hx hb dL_law_4 rfl (lv_at hL 0 rfl) ?_
  refine lv_iconst (v := 0) hx hb dL_law_5 (by decide) ?_
  obtain ⟨v3, h4, hd⟩ := bo_ex hd
  refine r_cell C hX hbl h4 dL_law_6 hL.1 rfl ml_L_9 hR hS ⟨by show hn G2 - n0 ≤ 600000; omega, by show hs G2 - s0 ≤ 7302250; omega⟩ (cat_le [.inr q1, .inr q1] (Nat.le_of_ble_eq_true rfl)) (fun H locs hR hS => ?_)
  refine W_st (st2 := [.int v3, rv q1, rv q1]) rfl ?_
  obtain ⟨g5, hd⟩ := gd_ex hd
  obtain ⟨G7, h6, hd⟩ := bo_ex hd
  obtain ⟨g8, hd⟩ := gd_ex hd
  obtain ⟨hM, hd⟩ := mP_ex hd
  refine r_callI (a := q1) (As := [.int v3]) C (ct_X8_init hB h6) mf_X8_init ml_L_15 mi_X8_init rfl ⟨Nat.le_of_ble_eq_true rfl, Nat.le_of_ble_eq_true rfl⟩ dL_law_9 hL.1 rfl hR hS (by rw [g5]; decide) ⟨by show hn G2 - n0 + (hn G7 - hn G2) ≤ 600000; omega, by show hs G2 - s0 + (hs G7 - hs G2) ≤ 7302250; omega⟩ (cat_le [.inr q1] (Nat.le_of_ble_eq_true rfl)) (fun H locs hR hS => ?_)
  refine W_st (st2 := [rv q1]) rfl ?_
  refine W_cs (c2 := hn G7 - n0) (s2 := hs G7 - s0) (by first | rfl | omega) (by first | rfl | omega) ?_
  replace hB : b0 ≤ hn G7 := by omega
  replace hZ : n0 ≤ hn G7 ∧ s0 ≤ hs G7 := by omega
  have hq1 : q1 ≠ 0 := by omega
  rw [rv_ne hq1]
  refine lv_astore_n (lv' := [(1, .ref q1), (0, .ref b)]) hx hb dL_law_12 rfl hL (by decide) rfl (fun ls hL => ?_)
  obtain ⟨q9, eq9, hd⟩ := bd_ex hd
  have hbq9 : b0 ≤ q9 := by rw [eq9]; exact hB
  obtain ⟨G10, eG10, hd⟩ := bd_ex hd
  obtain ⟨hM, hd⟩ := mP_ex hd
  have hm1 : hn G10 = hn G7 + 1 ∧ hs G10 = hs G7 + 40 := by rw [eG10]; exact ⟨rfl, rfl⟩
  refine r_new (ci := 9) C (by decide) cl_L_18 dL_law_13 hR hS hB hZ ⟨by show hn G7 + 1 - n0 ≤ 600000; omega, by show hs G7 + 40 - s0 ≤ 7302250; omega⟩ (fun H locs hR hS => ?_)
  rw [← eq9]
  refine W_cs (c2 := hn G10 - n0) (s2 := hs G10 - s0) (by rw [eG10] <;> rfl) (by rw [eG10] <;> rfl) ?_
  replace hR : Rp b0 D E G10 H := by rw [eG10]; exact hR
  replace hB : b0 ≤ hn G10 := by omega
  replace hZ : n0 ≤ hn G10 ∧ s0 ≤ hs G10 := by omega
  refine lv_dup hx hb dL_law_16 (rv_cat _) ?_
  refine lv_aload_n hx hb dL_law_17 rfl (lv_at hL 1 rfl) ?_
  refine lv_iconst (v := 0) hx hb dL_law_18 (by decide) ?_
  obtain ⟨v11, h12, hd⟩ := bo_ex hd
  refine r_cell C hX hbl h12 dL_law_19 hL.1 rfl ml_L_9 hR hS ⟨by show hn G10 - n0 ≤ 600000; omega, by show hs G10 - s0 ≤ 7302250; omega⟩ (cat_le [.inr q9, .inr q9] (Nat.le_of_ble_eq_true rfl)) (fun H locs hR hS => ?_)
  refine W_st (st2 := [.int v11, rv q9, rv q9]) rfl ?_
  obtain ⟨g13, hd⟩ := gd_ex hd
  obtain ⟨G15, h14, hd⟩ := bo_ex hd
  obtain ⟨g16, hd⟩ := gd_ex hd
  obtain ⟨hM, hd⟩ := mP_ex hd
  refine r_callI (a := q9) (As := [.int v11]) C (ct_X9_init hB h14) mf_X9_init ml_L_20 mi_X9_init rfl ⟨Nat.le_of_ble_eq_true rfl, Nat.le_of_ble_eq_true rfl⟩ dL_law_22 hL.1 rfl hR hS (by rw [g13]; decide) ⟨by show hn G10 - n0 + (hn G15 - hn G10) ≤ 600000; omega, by show hs G10 - s0 + (hs G15 - hs G10) ≤ 7302250; omega⟩ (cat_le [.inr q9] (Nat.le_of_ble_eq_true rfl)) (fun H locs hR hS => ?_)
  refine W_st (st2 := [rv q9]) rfl ?_
  refine W_cs (c2 := hn G15 - n0) (s2 := hs G15 - s0) (by first | rfl | omega) (by first | rfl | omega) ?_
  replace hB : b0 ≤ hn G15 := by omega
  replace hZ : n0 ≤ hn G15 ∧ s0 ≤ hs G15 := by omega
  have hq2 : q9 ≠ 0 := by omega
  rw [rv_ne hq2]
  refine lv_astore_n (lv' := [(2, .ref q9), (1, .ref q1), (0, .ref b)]) hx hb dL_law_25 rfl hL (by decide) rfl (fun ls hL => ?_)
  refine lv_iconst (v := 1) hx hb dL_law_26 (by decide) ?_
  refine lv_istore_n (lv' := [(3, .int 1), (2, .ref q9), (1, .ref q1), (0, .ref b)]) hx hb dL_law_27 rfl hL (by decide) rfl (fun ls hL => ?_)
  exact k_L_law_28 C hX hbl hB0 hfin FU hq1 hq2 (lv_sub hL [3, 2, 1, 0] rfl) hR hS hB hZ hd
end


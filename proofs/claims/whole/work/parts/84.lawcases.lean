theorem cmp_self {a : Int64} : lg_cmp a a = 0 := by
  unfold lg_cmp
  simp
theorem nxt_le {t : Nat} (_ : t < 512) : 100 + 8 * t + 4 + 0 ≤ 100 + 8 * (t + 1) ∧ 5000 + 80 * t + 70 + 0 ≤ 5000 + 80 * (t + 1) := by omega
set_option maxRecDepth 100000 in
theorem cv_RL_19 : CV RL 19 yX8_room YG_room 5 := ⟨⟨Or.inl (gd_of (i := 202) (by decide +kernel) rfl), gd_of (i := 42) (by decide +kernel) rfl, gd_of (i := 205) rfl rfl, by decide, by decide, by decide +kernel⟩, gd_of (i := 203) (by decide +kernel) rfl, gd_of (i := 204) (by decide +kernel) rfl⟩
set_option maxRecDepth 100000 in
theorem cv_RL_23 : CV RL 23 yX9_room YM_room 5 := ⟨⟨Or.inl (gd_of (i := 963) (by decide +kernel) rfl), gd_of (i := 48) (by decide +kernel) rfl, gd_of (i := 966) rfl rfl, by decide, by decide, by decide +kernel⟩, gd_of (i := 964) (by decide +kernel) rfl, gd_of (i := 965) (by decide +kernel) rfl⟩
set_option maxRecDepth 100000 in
theorem cv_RL_24 : CV RL 24 yX8_store YG_store 1 := ⟨⟨Or.inl (gd_of (i := 265) (by decide +kernel) rfl), gd_of (i := 42) (by decide +kernel) rfl, gd_of (i := 268) rfl rfl, by decide, by decide, by decide +kernel⟩, gd_of (i := 266) (by decide +kernel) rfl, gd_of (i := 267) (by decide +kernel) rfl⟩
set_option maxRecDepth 100000 in
theorem cv_RL_28 : CV RL 28 yX9_store YM_store 1 := ⟨⟨Or.inl (gd_of (i := 970) (by decide +kernel) rfl), gd_of (i := 48) (by decide +kernel) rfl, gd_of (i := 973) rfl rfl, by decide, by decide, by decide +kernel⟩, gd_of (i := 971) (by decide +kernel) rfl, gd_of (i := 972) (by decide +kernel) rfl⟩
set_option maxRecDepth 100000 in
theorem cv_RL_29 : CV RL 29 yX8_door YG_door 1 := ⟨⟨Or.inl (gd_of (i := 273) (by decide +kernel) rfl), gd_of (i := 42) (by decide +kernel) rfl, gd_of (i := 276) rfl rfl, by decide, by decide, by decide +kernel⟩, gd_of (i := 274) (by decide +kernel) rfl, gd_of (i := 275) (by decide +kernel) rfl⟩
set_option maxRecDepth 100000 in
theorem cv_RL_32 : CV RL 32 yX9_door YM_door 1 := ⟨⟨Or.inl (gd_of (i := 974) (by decide +kernel) rfl), gd_of (i := 48) (by decide +kernel) rfl, gd_of (i := 977) rfl rfl, by decide, by decide, by decide +kernel⟩, gd_of (i := 975) (by decide +kernel) rfl, gd_of (i := 976) (by decide +kernel) rfl⟩
set_option maxRecDepth 100000 in
theorem cv_RL_33 : CV RL 33 yX8_shut YG_shut 4 := ⟨⟨Or.inl (gd_of (i := 281) (by decide +kernel) rfl), gd_of (i := 42) (by decide +kernel) rfl, gd_of (i := 284) rfl rfl, by decide, by decide, by decide +kernel⟩, gd_of (i := 282) (by decide +kernel) rfl, gd_of (i := 283) (by decide +kernel) rfl⟩
set_option maxRecDepth 100000 in
theorem cv_RL_37 : CV RL 37 yX9_shut YM_shut 4 := ⟨⟨Or.inl (gd_of (i := 978) (by decide +kernel) rfl), gd_of (i := 48) (by decide +kernel) rfl, gd_of (i := 981) rfl rfl, by decide, by decide, by decide +kernel⟩, gd_of (i := 979) (by decide +kernel) rfl, gd_of (i := 980) (by decide +kernel) rfl⟩
set_option maxRecDepth 100000 in
theorem cv_RL_38 : CV RL 38 yX8_open YG_open 2 := ⟨⟨Or.inl (gd_of (i := 304) (by decide +kernel) rfl), gd_of (i := 42) (by decide +kernel) rfl, gd_of (i := 307) rfl rfl, by decide, by decide, by decide +kernel⟩, gd_of (i := 305) (by decide +kernel) rfl, gd_of (i := 306) (by decide +kernel) rfl⟩
set_option maxRecDepth 100000 in
theorem cv_RL_42 : CV RL 42 yX9_open YM_open 2 := ⟨⟨Or.inl (gd_of (i := 989) (by decide +kernel) rfl), gd_of (i := 48) (by decide +kernel) rfl, gd_of (i := 992) rfl rfl, by decide, by decide, by decide +kernel⟩, gd_of (i := 990) (by decide +kernel) rfl, gd_of (i := 991) (by decide +kernel) rfl⟩
set_option maxRecDepth 100000 in
theorem cv_RL_43 : CV RL 43 yX8_close YG_close 1 := ⟨⟨Or.inl (gd_of (i := 312) (by decide +kernel) rfl), gd_of (i := 42) (by decide +kernel) rfl, gd_of (i := 315) rfl rfl, by decide, by decide, by decide +kernel⟩, gd_of (i := 313) (by decide +kernel) rfl, gd_of (i := 314) (by decide +kernel) rfl⟩
set_option maxRecDepth 100000 in
theorem cv_RL_46 : CV RL 46 yX9_close YM_close 1 := ⟨⟨Or.inl (gd_of (i := 993) (by decide +kernel) rfl), gd_of (i := 48) (by decide +kernel) rfl, gd_of (i := 996) rfl rfl, by decide, by decide, by decide +kernel⟩, gd_of (i := 994) (by decide +kernel) rfl, gd_of (i := 995) (by decide +kernel) rfl⟩
set_option maxRecDepth 100000 in
theorem cv_RL_47 : CV RL 47 yX8_look YG_look 2 := ⟨⟨Or.inl (gd_of (i := 320) (by decide +kernel) rfl), gd_of (i := 42) (by decide +kernel) rfl, gd_of (i := 323) rfl rfl, by decide, by decide, by decide +kernel⟩, gd_of (i := 321) (by decide +kernel) rfl, gd_of (i := 322) (by decide +kernel) rfl⟩
set_option maxRecDepth 100000 in
theorem cv_RL_50 : CV RL 50 yX9_look YM_look 2 := ⟨⟨Or.inl (gd_of (i := 997) (by decide +kernel) rfl), gd_of (i := 48) (by decide +kernel) rfl, gd_of (i := 1000) rfl rfl, by decide, by decide, by decide +kernel⟩, gd_of (i := 998) (by decide +kernel) rfl, gd_of (i := 999) (by decide +kernel) rfl⟩
set_option maxRecDepth 100000 in
theorem cv_RL_51 : CV RL 51 yX8_night YG_night 2 := ⟨⟨Or.inl (gd_of (i := 330) (by decide +kernel) rfl), gd_of (i := 42) (by decide +kernel) rfl, gd_of (i := 333) rfl rfl, by decide, by decide, by decide +kernel⟩, gd_of (i := 331) (by decide +kernel) rfl, gd_of (i := 332) (by decide +kernel) rfl⟩
set_option maxRecDepth 100000 in
theorem cv_RL_54 : CV RL 54 yX9_night YM_night 2 := ⟨⟨Or.inl (gd_of (i := 1001) (by decide +kernel) rfl), gd_of (i := 48) (by decide +kernel) rfl, gd_of (i := 1004) rfl rfl, by decide, by decide, by decide +kernel⟩, gd_of (i := 1002) (by decide +kernel) rfl, gd_of (i := 1003) (by decide +kernel) rfl⟩
set_option maxRecDepth 100000 in
theorem cv_RL_55 : CV RL 55 yX8_can YG_can 4 := ⟨⟨Or.inl (gd_of (i := 341) (by decide +kernel) rfl), gd_of (i := 42) (by decide +kernel) rfl, gd_of (i := 344) rfl rfl, by decide, by decide, by decide +kernel⟩, gd_of (i := 342) (by decide +kernel) rfl, gd_of (i := 343) (by decide +kernel) rfl⟩
set_option maxRecDepth 100000 in
theorem cv_RL_59 : CV RL 59 yX9_can YM_can 4 := ⟨⟨Or.inl (gd_of (i := 1008) (by decide +kernel) rfl), gd_of (i := 48) (by decide +kernel) rfl, gd_of (i := 1011) rfl rfl, by decide, by decide, by decide +kernel⟩, gd_of (i := 1009) (by decide +kernel) rfl, gd_of (i := 1010) (by decide +kernel) rfl⟩
set_option maxRecDepth 100000 in
theorem cv_RL_60 : CV RL 60 yX8_promise YG_promise 5 := ⟨⟨Or.inl (gd_of (i := 449) (by decide +kernel) rfl), gd_of (i := 42) (by decide +kernel) rfl, gd_of (i := 452) rfl rfl, by decide, by decide, by decide +kernel⟩, gd_of (i := 450) (by decide +kernel) rfl, gd_of (i := 451) (by decide +kernel) rfl⟩
set_option maxRecDepth 100000 in
theorem cv_RL_64 : CV RL 64 yX9_promise YM_promise 5 := ⟨⟨Or.inl (gd_of (i := 1064) (by decide +kernel) rfl), gd_of (i := 48) (by decide +kernel) rfl, gd_of (i := 1067) rfl rfl, by decide, by decide, by decide +kernel⟩, gd_of (i := 1065) (by decide +kernel) rfl, gd_of (i := 1066) (by decide +kernel) rfl⟩
set_option maxRecDepth 100000 in
theorem cv_RL_65 : CV RL 65 yX8_firm YG_firm 1 := ⟨⟨Or.inl (gd_of (i := 505) (by decide +kernel) rfl), gd_of (i := 42) (by decide +kernel) rfl, gd_of (i := 508) rfl rfl, by decide, by decide, by decide +kernel⟩, gd_of (i := 506) (by decide +kernel) rfl, gd_of (i := 507) (by decide +kernel) rfl⟩
set_option maxRecDepth 100000 in
theorem cv_RL_68 : CV RL 68 yX9_firm YM_firm 1 := ⟨⟨Or.inl (gd_of (i := 1069) (by decide +kernel) rfl), gd_of (i := 48) (by decide +kernel) rfl, gd_of (i := 1072) rfl rfl, by decide, by decide, by decide +kernel⟩, gd_of (i := 1070) (by decide +kernel) rfl, gd_of (i := 1071) (by decide +kernel) rfl⟩
set_option maxRecDepth 100000 in
theorem cv_RL_69 : CV RL 69 yX8_cancel YG_cancel 1 := ⟨⟨Or.inl (gd_of (i := 513) (by decide +kernel) rfl), gd_of (i := 42) (by decide +kernel) rfl, gd_of (i := 516) rfl rfl, by decide, by decide, by decide +kernel⟩, gd_of (i := 514) (by decide +kernel) rfl, gd_of (i := 515) (by decide +kernel) rfl⟩
set_option maxRecDepth 100000 in
theorem cv_RL_72 : CV RL 72 yX9_cancel YM_cancel 1 := ⟨⟨Or.inl (gd_of (i := 1077) (by decide +kernel) rfl), gd_of (i := 48) (by decide +kernel) rfl, gd_of (i := 1080) rfl rfl, by decide, by decide, by decide +kernel⟩, gd_of (i := 1078) (by decide +kernel) rfl, gd_of (i := 1079) (by decide +kernel) rfl⟩
set_option maxRecDepth 100000 in
theorem cv_RL_73 : CV RL 73 yX8_change YG_change 3 := ⟨⟨Or.inl (gd_of (i := 521) (by decide +kernel) rfl), gd_of (i := 42) (by decide +kernel) rfl, gd_of (i := 524) rfl rfl, by decide, by decide, by decide +kernel⟩, gd_of (i := 522) (by decide +kernel) rfl, gd_of (i := 523) (by decide +kernel) rfl⟩
set_option maxRecDepth 100000 in
theorem cv_RL_77 : CV RL 77 yX9_change YM_change 3 := ⟨⟨Or.inl (gd_of (i := 1085) (by decide +kernel) rfl), gd_of (i := 48) (by decide +kernel) rfl, gd_of (i := 1088) rfl rfl, by decide, by decide, by decide +kernel⟩, gd_of (i := 1086) (by decide +kernel) rfl, gd_of (i := 1087) (by decide +kernel) rfl⟩
set_option maxRecDepth 100000 in
theorem cv_RL_78 : CV RL 78 yX8_come YG_come 1 := ⟨⟨Or.inl (gd_of (i := 525) (by decide +kernel) rfl), gd_of (i := 42) (by decide +kernel) rfl, gd_of (i := 528) rfl rfl, by decide, by decide, by decide +kernel⟩, gd_of (i := 526) (by decide +kernel) rfl, gd_of (i := 527) (by decide +kernel) rfl⟩
set_option maxRecDepth 100000 in
theorem cv_RL_81 : CV RL 81 yX9_come YM_come 1 := ⟨⟨Or.inl (gd_of (i := 1089) (by decide +kernel) rfl), gd_of (i := 48) (by decide +kernel) rfl, gd_of (i := 1092) rfl rfl, by decide, by decide, by decide +kernel⟩, gd_of (i := 1090) (by decide +kernel) rfl, gd_of (i := 1091) (by decide +kernel) rfl⟩
set_option maxRecDepth 100000 in
theorem cv_RL_82 : CV RL 82 yX8_next YG_next 0 := ⟨⟨Or.inl (gd_of (i := 529) (by decide +kernel) rfl), gd_of (i := 42) (by decide +kernel) rfl, gd_of (i := 532) rfl rfl, by decide, by decide, by decide +kernel⟩, gd_of (i := 530) (by decide +kernel) rfl, gd_of (i := 531) (by decide +kernel) rfl⟩
set_option maxRecDepth 100000 in
theorem cv_RL_86 : CV RL 86 yX9_next YM_next 0 := ⟨⟨Or.inl (gd_of (i := 1093) (by decide +kernel) rfl), gd_of (i := 48) (by decide +kernel) rfl, gd_of (i := 1096) rfl rfl, by decide, by decide, by decide +kernel⟩, gd_of (i := 1094) (by decide +kernel) rfl, gd_of (i := 1095) (by decide +kernel) rfl⟩
set_option maxRecDepth 100000 in
theorem cv_RL_96 : CV RL 96 yX8_spot YG_spot 2 := ⟨⟨Or.inl (gd_of (i := 628) (by decide +kernel) rfl), gd_of (i := 42) (by decide +kernel) rfl, gd_of (i := 631) rfl rfl, by decide, by decide, by decide +kernel⟩, gd_of (i := 629) (by decide +kernel) rfl, gd_of (i := 630) (by decide +kernel) rfl⟩
set_option maxRecDepth 100000 in
theorem cv_RL_99 : CV RL 99 yX9_spot YM_spot 2 := ⟨⟨Or.inl (gd_of (i := 1121) (by decide +kernel) rfl), gd_of (i := 48) (by decide +kernel) rfl, gd_of (i := 1124) rfl rfl, by decide, by decide, by decide +kernel⟩, gd_of (i := 1122) (by decide +kernel) rfl, gd_of (i := 1123) (by decide +kernel) rfl⟩
set_option maxRecDepth 100000 in
theorem cv_RL_100 : CV RL 100 yX8_moves YG_moves 0 := ⟨⟨Or.inl (gd_of (i := 633) (by decide +kernel) rfl), gd_of (i := 42) (by decide +kernel) rfl, gd_of (i := 636) rfl rfl, by decide, by decide, by decide +kernel⟩, gd_of (i := 634) (by decide +kernel) rfl, gd_of (i := 635) (by decide +kernel) rfl⟩
set_option maxRecDepth 100000 in
theorem cv_RL_103 : CV RL 103 yX9_moves YM_moves 0 := ⟨⟨Or.inl (gd_of (i := 1129) (by decide +kernel) rfl), gd_of (i := 48) (by decide +kernel) rfl, gd_of (i := 1132) rfl rfl, by decide, by decide, by decide +kernel⟩, gd_of (i := 1130) (by decide +kernel) rfl, gd_of (i := 1131) (by decide +kernel) rfl⟩
set_option maxRecDepth 100000 in
theorem cv_RL_104 : CV RL 104 yX8_floors YG_floors 3 := ⟨⟨Or.inl (gd_of (i := 642) (by decide +kernel) rfl), gd_of (i := 42) (by decide +kernel) rfl, gd_of (i := 645) rfl rfl, by decide, by decide, by decide +kernel⟩, gd_of (i := 643) (by decide +kernel) rfl, gd_of (i := 644) (by decide +kernel) rfl⟩
set_option maxRecDepth 100000 in
theorem cv_RL_107 : CV RL 107 yX9_floors YM_floors 3 := ⟨⟨Or.inl (gd_of (i := 1133) (by decide +kernel) rfl), gd_of (i := 48) (by decide +kernel) rfl, gd_of (i := 1136) rfl rfl, by decide, by decide, by decide +kernel⟩, gd_of (i := 1134) (by decide +kernel) rfl, gd_of (i := 1135) (by decide +kernel) rfl⟩
set_option maxRecDepth 100000 in
theorem cv_RL_108 : CV RL 108 yX8_lacks YG_lacks 1 := ⟨⟨Or.inl (gd_of (i := 653) (by decide +kernel) rfl), gd_of (i := 42) (by decide +kernel) rfl, gd_of (i := 656) rfl rfl, by decide, by decide, by decide +kernel⟩, gd_of (i := 654) (by decide +kernel) rfl, gd_of (i := 655) (by decide +kernel) rfl⟩
set_option maxRecDepth 100000 in
theorem cv_RL_112 : CV RL 112 yX9_lacks YM_lacks 1 := ⟨⟨Or.inl (gd_of (i := 1137) (by decide +kernel) rfl), gd_of (i := 48) (by decide +kernel) rfl, gd_of (i := 1140) rfl rfl, by decide, by decide, by decide +kernel⟩, gd_of (i := 1138) (by decide +kernel) rfl, gd_of (i := 1139) (by decide +kernel) rfl⟩
set_option maxRecDepth 100000 in
theorem cv_RL_113 : CV RL 113 yX8_rooms YG_rooms 3 := ⟨⟨Or.inl (gd_of (i := 657) (by decide +kernel) rfl), gd_of (i := 42) (by decide +kernel) rfl, gd_of (i := 660) rfl rfl, by decide, by decide, by decide +kernel⟩, gd_of (i := 658) (by decide +kernel) rfl, gd_of (i := 659) (by decide +kernel) rfl⟩
set_option maxRecDepth 100000 in
theorem cv_RL_116 : CV RL 116 yX9_rooms YM_rooms 3 := ⟨⟨Or.inl (gd_of (i := 1141) (by decide +kernel) rfl), gd_of (i := 48) (by decide +kernel) rfl, gd_of (i := 1144) rfl rfl, by decide, by decide, by decide +kernel⟩, gd_of (i := 1142) (by decide +kernel) rfl, gd_of (i := 1143) (by decide +kernel) rfl⟩
set_option maxRecDepth 100000 in
theorem cv_RL_117 : CV RL 117 yX8_over YG_over 1 := ⟨⟨Or.inl (gd_of (i := 676) (by decide +kernel) rfl), gd_of (i := 42) (by decide +kernel) rfl, gd_of (i := 679) rfl rfl, by decide, by decide, by decide +kernel⟩, gd_of (i := 677) (by decide +kernel) rfl, gd_of (i := 678) (by decide +kernel) rfl⟩
set_option maxRecDepth 100000 in
theorem cv_RL_120 : CV RL 120 yX9_over YM_over 1 := ⟨⟨Or.inl (gd_of (i := 1149) (by decide +kernel) rfl), gd_of (i := 48) (by decide +kernel) rfl, gd_of (i := 1152) rfl rfl, by decide, by decide, by decide +kernel⟩, gd_of (i := 1150) (by decide +kernel) rfl, gd_of (i := 1151) (by decide +kernel) rfl⟩
set_option maxRecDepth 100000 in
theorem cv_RL_121 : CV RL 121 yX8_price YG_price 4 := ⟨⟨Or.inl (gd_of (i := 680) (by decide +kernel) rfl), gd_of (i := 42) (by decide +kernel) rfl, gd_of (i := 683) rfl rfl, by decide, by decide, by decide +kernel⟩, gd_of (i := 681) (by decide +kernel) rfl, gd_of (i := 682) (by decide +kernel) rfl⟩
set_option maxRecDepth 100000 in
theorem cv_RL_125 : CV RL 125 yX9_price YM_price 4 := ⟨⟨Or.inl (gd_of (i := 1153) (by decide +kernel) rfl), gd_of (i := 48) (by decide +kernel) rfl, gd_of (i := 1156) rfl rfl, by decide, by decide, by decide +kernel⟩, gd_of (i := 1154) (by decide +kernel) rfl, gd_of (i := 1155) (by decide +kernel) rfl⟩
set_option maxRecDepth 100000 in
theorem cv_RL_126 : CV RL 126 yX8_rule YG_rule 3 := ⟨⟨Or.inl (gd_of (i := 689) (by decide +kernel) rfl), gd_of (i := 42) (by decide +kernel) rfl, gd_of (i := 692) rfl rfl, by decide, by decide, by decide +kernel⟩, gd_of (i := 690) (by decide +kernel) rfl, gd_of (i := 691) (by decide +kernel) rfl⟩
set_option maxRecDepth 100000 in
theorem cv_RL_129 : CV RL 129 yX9_rule YM_rule 3 := ⟨⟨Or.inl (gd_of (i := 1158) (by decide +kernel) rfl), gd_of (i := 48) (by decide +kernel) rfl, gd_of (i := 1161) rfl rfl, by decide, by decide, by decide +kernel⟩, gd_of (i := 1159) (by decide +kernel) rfl, gd_of (i := 1160) (by decide +kernel) rfl⟩
set_option maxRecDepth 100000 in
theorem cv_RL_130 : CV RL 130 yX8_drop YG_drop 1 := ⟨⟨Or.inl (gd_of (i := 719) (by decide +kernel) rfl), gd_of (i := 42) (by decide +kernel) rfl, gd_of (i := 722) rfl rfl, by decide, by decide, by decide +kernel⟩, gd_of (i := 720) (by decide +kernel) rfl, gd_of (i := 721) (by decide +kernel) rfl⟩
set_option maxRecDepth 100000 in
theorem cv_RL_133 : CV RL 133 yX9_drop YM_drop 1 := ⟨⟨Or.inl (gd_of (i := 1162) (by decide +kernel) rfl), gd_of (i := 48) (by decide +kernel) rfl, gd_of (i := 1165) rfl rfl, by decide, by decide, by decide +kernel⟩, gd_of (i := 1163) (by decide +kernel) rfl, gd_of (i := 1164) (by decide +kernel) rfl⟩
set_option maxRecDepth 100000 in
theorem cv_RL_134 : CV RL 134 yX8_cost YG_cost 3 := ⟨⟨Or.inl (gd_of (i := 727) (by decide +kernel) rfl), gd_of (i := 42) (by decide +kernel) rfl, gd_of (i := 730) rfl rfl, by decide, by decide, by decide +kernel⟩, gd_of (i := 728) (by decide +kernel) rfl, gd_of (i := 729) (by decide +kernel) rfl⟩
set_option maxRecDepth 100000 in
theorem cv_RL_138 : CV RL 138 yX9_cost YM_cost 3 := ⟨⟨Or.inl (gd_of (i := 1166) (by decide +kernel) rfl), gd_of (i := 48) (by decide +kernel) rfl, gd_of (i := 1169) rfl rfl, by decide, by decide, by decide +kernel⟩, gd_of (i := 1167) (by decide +kernel) rfl, gd_of (i := 1168) (by decide +kernel) rfl⟩
set_option maxRecDepth 100000 in
theorem cv_RL_139 : CV RL 139 yX8_least YG_least 4 := ⟨⟨Or.inl (gd_of (i := 735) (by decide +kernel) rfl), gd_of (i := 42) (by decide +kernel) rfl, gd_of (i := 738) rfl rfl, by decide, by decide, by decide +kernel⟩, gd_of (i := 736) (by decide +kernel) rfl, gd_of (i := 737) (by decide +kernel) rfl⟩
set_option maxRecDepth 100000 in
theorem cv_RL_143 : CV RL 143 yX9_least YM_least 4 := ⟨⟨Or.inl (gd_of (i := 1170) (by decide +kernel) rfl), gd_of (i := 48) (by decide +kernel) rfl, gd_of (i := 1173) rfl rfl, by decide, by decide, by decide +kernel⟩, gd_of (i := 1171) (by decide +kernel) rfl, gd_of (i := 1172) (by decide +kernel) rfl⟩
set_option maxRecDepth 100000 in
theorem cv_RL_144 : CV RL 144 yX8_count YG_count 1 := ⟨⟨Or.inl (gd_of (i := 743) (by decide +kernel) rfl), gd_of (i := 42) (by decide +kernel) rfl, gd_of (i := 746) rfl rfl, by decide, by decide, by decide +kernel⟩, gd_of (i := 744) (by decide +kernel) rfl, gd_of (i := 745) (by decide +kernel) rfl⟩
set_option maxRecDepth 100000 in
theorem cv_RL_147 : CV RL 147 yX9_count YM_count 1 := ⟨⟨Or.inl (gd_of (i := 1174) (by decide +kernel) rfl), gd_of (i := 48) (by decide +kernel) rfl, gd_of (i := 1177) rfl rfl, by decide, by decide, by decide +kernel⟩, gd_of (i := 1175) (by decide +kernel) rfl, gd_of (i := 1176) (by decide +kernel) rfl⟩
set_option maxRecDepth 100000 in
theorem cv_RL_92 : CV RL 92 yX9_promised YM_promised 2 := ⟨⟨Or.inl (gd_of (i := 1117) (by decide +kernel) rfl), gd_of (i := 48) (by decide +kernel) rfl, gd_of (i := 1120) rfl rfl, by decide, by decide, by decide +kernel⟩, gd_of (i := 1118) (by decide +kernel) rfl, gd_of (i := 1119) (by decide +kernel) rfl⟩
set_option maxRecDepth 100000 in
theorem cv_RL_93 : CV RL 93 yX9_thrown YM_thrown 0 := ⟨⟨Or.inl (gd_of (i := 847) (by decide +kernel) rfl), gd_of (i := 48) (by decide +kernel) rfl, gd_of (i := 850) rfl rfl, by decide, by decide, by decide +kernel⟩, gd_of (i := 848) (by decide +kernel) rfl, gd_of (i := 849) (by decide +kernel) rfl⟩
section LAWCASES
variable {l : Launch} {D : va_G} {dA : Nat → ClassId} {H0 : Heap} {h0 : Hx} {Po : Option AV → Hp → Prop} {b L : Nat} {xs : Nat → Int32}
theorem lc_room : LC l D dA H0 b L xs h0 Po 168 := by
  intro t i σ o5 o6 o7 ht hv hI kk
  obtain ⟨r, σ1, σ2, e1, e2, hI2⟩ := E_room (x1 := (xs (i + 1).toNatClampNeg)) (x2 := (xs (i + 2).toNatClampNeg)) (x3 := (xs (i + 3).toNatClampNeg)) (x4 := (xs (i + 4).toNatClampNeg)) (x5 := (xs (i + 5).toNatClampNeg)) hI
  refine j_aload_n (pc' := 169) rfl rfl dL_law_168 ?_
  refine j_arg (v := 1) (pc' := 175) rfl rfl hv.1 rfl dL_law_169 dL_law_170 dL_law_172 dL_law_173 dL_law_174 ?_
  refine j_arg (v := 2) (pc' := 181) rfl rfl hv.2.1 rfl dL_law_175 dL_law_176 dL_law_178 dL_law_179 dL_law_180 ?_
  refine j_arg (v := 3) (pc' := 187) rfl rfl hv.2.2.1 rfl dL_law_181 dL_law_182 dL_law_184 dL_law_185 dL_law_186 ?_
  refine j_arg (v := 4) (pc' := 193) rfl rfl hv.2.2.2.1 rfl dL_law_187 dL_law_188 dL_law_190 dL_law_191 dL_law_192 ?_
  refine j_arg (v := 5) (pc' := 199) rfl rfl hv.2.2.2.2 rfl dL_law_193 dL_law_194 dL_law_196 dL_law_197 dL_law_198 ?_
  refine j_callV (pc' := 202) (LG_room e1) cv_RL_19 ⟨le_b rfl, le_b rfl⟩ (hp_e rfl) rfl rfl (le_b rfl) (rm_w ht (le_b rfl) (le_b rfl)) rfl rfl dL_law_199 (fun _ _ hPq => ?_)
  obtain ⟨rfl, rfl⟩ := hPq
  refine j_wide (k' := 100 + 8 * t + 4) (n' := 5000 + 80 * t + 70) (Nat.add_le_add_left (le_b rfl) _) (Nat.add_le_add_left (le_b rfl) _) ?_
  refine j_aload_n (pc' := 203) rfl rfl dL_law_202 ?_
  refine j_arg (v := 1) (pc' := 209) rfl rfl hv.1 rfl dL_law_203 dL_law_204 dL_law_206 dL_law_207 dL_law_208 ?_
  refine j_arg (v := 2) (pc' := 215) rfl rfl hv.2.1 rfl dL_law_209 dL_law_210 dL_law_212 dL_law_213 dL_law_214 ?_
  refine j_arg (v := 3) (pc' := 221) rfl rfl hv.2.2.1 rfl dL_law_215 dL_law_216 dL_law_218 dL_law_219 dL_law_220 ?_
  refine j_arg (v := 4) (pc' := 227) rfl rfl hv.2.2.2.1 rfl dL_law_221 dL_law_222 dL_law_224 dL_law_225 dL_law_226 ?_
  refine j_arg (v := 5) (pc' := 233) rfl rfl hv.2.2.2.2 rfl dL_law_227 dL_law_228 dL_law_230 dL_law_231 dL_law_232 ?_
  refine j_callV (pc' := 236) (LM_room e2) cv_RL_23 ⟨le_b rfl, le_b rfl⟩ (hp_e rfl) rfl rfl (le_b rfl) (rm_w2 ht (le_b rfl) (le_b rfl)) rfl rfl dL_law_233 (fun _ _ hPq => ?_)
  obtain ⟨rfl, rfl⟩ := hPq
  refine j_ic_eq (tg := 1312) (pc' := 239) rfl rfl dL_law_236 (fun _ => ?_) (fun hne => absurd rfl hne)
  exact j_wide (nxt_le ht).1 (nxt_le ht).2 (kk σ2 o5 o6 o7 hI2)
theorem lc_store : LC l D dA H0 b L xs h0 Po 241 := by
  intro t i σ o5 o6 o7 ht hv hI kk
  obtain ⟨r, σ1, σ2, e1, e2, hI2⟩ := E_store (x1 := (xs (i + 1).toNatClampNeg)) hI
  refine j_aload_n (pc' := 242) rfl rfl dL_law_241 ?_
  refine j_arg (v := 1) (pc' := 248) rfl rfl hv.1 rfl dL_law_242 dL_law_243 dL_law_245 dL_law_246 dL_law_247 ?_
  refine j_callV (pc' := 251) (LG_store e1) cv_RL_24 ⟨le_b rfl, le_b rfl⟩ (hp_e rfl) rfl rfl (le_b rfl) (rm_w ht (le_b rfl) (le_b rfl)) rfl rfl dL_law_248 (fun _ _ hPq => ?_)
  obtain ⟨rfl, rfl⟩ := hPq
  refine j_wide (k' := 100 + 8 * t + 4) (n' := 5000 + 80 * t + 70) (Nat.add_le_add_left (le_b rfl) _) (Nat.add_le_add_left (le_b rfl) _) ?_
  refine j_aload_n (pc' := 252) rfl rfl dL_law_251 ?_
  refine j_arg (v := 1) (pc' := 258) rfl rfl hv.1 rfl dL_law_252 dL_law_253 dL_law_255 dL_law_256 dL_law_257 ?_
  refine j_callV (pc' := 261) (LM_store e2) cv_RL_28 ⟨le_b rfl, le_b rfl⟩ (hp_e rfl) rfl rfl (le_b rfl) (rm_w2 ht (le_b rfl) (le_b rfl)) rfl rfl dL_law_258 (fun _ _ hPq => ?_)
  obtain ⟨rfl, rfl⟩ := hPq
  refine j_ic_eq (tg := 1312) (pc' := 264) rfl rfl dL_law_261 (fun _ => ?_) (fun hne => absurd rfl hne)
  exact j_wide (nxt_le ht).1 (nxt_le ht).2 (kk σ2 o5 o6 o7 hI2)
theorem lc_door : LC l D dA H0 b L xs h0 Po 266 := by
  intro t i σ o5 o6 o7 ht hv hI kk
  obtain ⟨r, σ1, σ2, e1, e2, hI2⟩ := E_door (x1 := (xs (i + 1).toNatClampNeg)) hI
  refine j_aload_n (pc' := 267) rfl rfl dL_law_266 ?_
  refine j_arg (v := 1) (pc' := 273) rfl rfl hv.1 rfl dL_law_267 dL_law_268 dL_law_270 dL_law_271 dL_law_272 ?_
  refine j_callV (pc' := 276) (LG_door e1) cv_RL_29 ⟨le_b rfl, le_b rfl⟩ (hp_e rfl) rfl rfl (le_b rfl) (rm_w ht (le_b rfl) (le_b rfl)) rfl rfl dL_law_273 (fun _ _ hPq => ?_)
  obtain ⟨rfl, rfl⟩ := hPq
  refine j_wide (k' := 100 + 8 * t + 4) (n' := 5000 + 80 * t + 70) (Nat.add_le_add_left (le_b rfl) _) (Nat.add_le_add_left (le_b rfl) _) ?_
  refine j_aload_n (pc' := 277) rfl rfl dL_law_276 ?_
  refine j_arg (v := 1) (pc' := 283) rfl rfl hv.1 rfl dL_law_277 dL_law_278 dL_law_280 dL_law_281 dL_law_282 ?_
  refine j_callV (pc' := 286) (LM_door e2) cv_RL_32 ⟨le_b rfl, le_b rfl⟩ (hp_e rfl) rfl rfl (le_b rfl) (rm_w2 ht (le_b rfl) (le_b rfl)) rfl rfl dL_law_283 (fun _ _ hPq => ?_)
  obtain ⟨rfl, rfl⟩ := hPq
  refine j_ic_eq (tg := 1312) (pc' := 289) rfl rfl dL_law_286 (fun _ => ?_) (fun hne => absurd rfl hne)
  exact j_wide (nxt_le ht).1 (nxt_le ht).2 (kk σ2 o5 o6 o7 hI2)
theorem lc_shut_b {t : Nat} {i z : Int32} {σ : Mem} {o5 o6 o7 : Option AV} (ht : t < 512) (hv : vp_in (i + 1) L ∧ vp_in (i + 2) L ∧ vp_in (i + 3) L ∧ vp_in (i + 4) L ∧ vp_in (i + 5) L) (hz : (xs (i + 4).toNatClampNeg = 0 → z = 0) ∧ (¬ xs (i + 4).toNatClampNeg = 0 → z = 1)) (hI : INV σ) (kk : ∀ σ' o5 o6 o7, INV σ' → J l D dA H0 (YW l H0 b L xs) h0 Po (100 + 8 * (t + 1)) (5000 + 80 * (t + 1)) (hp σ') 1312 (LO i o5 o6 o7) []) : J l D dA H0 (YW l H0 b L xs) h0 Po (100 + 8 * t) (5000 + 80 * t) (hp σ) 291 (LO i o5 o6 o7) [] := by
  have h4 : z = 0 ∨ z = 1 := by
    by_cases c : xs (i + 4).toNatClampNeg = 0
    · exact Or.inl (hz.1 c)
    · exact Or.inr (hz.2 c)
  obtain ⟨r, σ1, σ2, e1, e2, hI2⟩ := E_shut (x1 := (xs (i + 1).toNatClampNeg)) (x2 := (xs (i + 2).toNatClampNeg)) (x3 := (xs (i + 3).toNatClampNeg)) (x4 := z) hI h4
  refine j_aload_n (pc' := 292) rfl rfl dL_law_291 ?_
  refine j_arg (v := 1) (pc' := 298) rfl rfl hv.1 rfl dL_law_292 dL_law_293 dL_law_295 dL_law_296 dL_law_297 ?_
  refine j_arg (v := 2) (pc' := 304) rfl rfl hv.2.1 rfl dL_law_298 dL_law_299 dL_law_301 dL_law_302 dL_law_303 ?_
  refine j_arg (v := 3) (pc' := 310) rfl rfl hv.2.2.1 rfl dL_law_304 dL_law_305 dL_law_307 dL_law_308 dL_law_309 ?_
  refine j_arg (v := 4) (pc' := 316) rfl rfl hv.2.2.2.1 rfl dL_law_310 dL_law_311 dL_law_313 dL_law_314 dL_law_315 ?_
  suffices hc0 : J l D dA H0 (YW l H0 b L xs) h0 Po (100 + 8 * t) (5000 + 80 * t) (hp σ) 324 (LO i o5 o6 o7) [vI z, vI (xs (i + 3).toNatClampNeg), vI (xs (i + 2).toNatClampNeg), vI (xs (i + 1).toNatClampNeg), vR (some (1, 0))] by
    refine j_if_eq (tg := 323) (pc' := 319) rfl rfl dL_law_316 (fun c => ?_) (fun c => ?_)
    · refine j_iconst (pc' := 324) (v := 0) rfl rfl dL_law_323 ?_
      rw [hz.1 c] at hc0
      exact hc0
    · refine j_iconst (pc' := 320) (v := 1) rfl rfl dL_law_319 ?_
      refine j_goto (tg := 324) rfl dL_law_320 ?_
      rw [hz.2 c] at hc0
      exact hc0
  refine j_callV (pc' := 327) (LG_shut e1) cv_RL_33 ⟨le_b rfl, le_b rfl⟩ (hp_e rfl) rfl rfl (le_b rfl) (rm_w ht (le_b rfl) (le_b rfl)) rfl rfl dL_law_324 (fun _ _ hPq => ?_)
  obtain ⟨rfl, rfl⟩ := hPq
  refine j_wide (k' := 100 + 8 * t + 4) (n' := 5000 + 80 * t + 70) (Nat.add_le_add_left (le_b rfl) _) (Nat.add_le_add_left (le_b rfl) _) ?_
  refine j_aload_n (pc' := 328) rfl rfl dL_law_327 ?_
  refine j_arg (v := 1) (pc' := 334) rfl rfl hv.1 rfl dL_law_328 dL_law_329 dL_law_331 dL_law_332 dL_law_333 ?_
  refine j_arg (v := 2) (pc' := 340) rfl rfl hv.2.1 rfl dL_law_334 dL_law_335 dL_law_337 dL_law_338 dL_law_339 ?_
  refine j_arg (v := 3) (pc' := 346) rfl rfl hv.2.2.1 rfl dL_law_340 dL_law_341 dL_law_343 dL_law_344 dL_law_345 ?_
  refine j_arg (v := 4) (pc' := 352) rfl rfl hv.2.2.2.1 rfl dL_law_346 dL_law_347 dL_law_349 dL_law_350 dL_law_351 ?_
  suffices hc1 : J l D dA H0 (YW l H0 b L xs) h0 Po (100 + 8 * t + 4) (5000 + 80 * t + 70) (hp σ1) 360 (LO i o5 o6 o7) [vI z, vI (xs (i + 3).toNatClampNeg), vI (xs (i + 2).toNatClampNeg), vI (xs (i + 1).toNatClampNeg), vR (some (30, 0)), vI r] by
    refine j_if_eq (tg := 359) (pc' := 355) rfl rfl dL_law_352 (fun c => ?_) (fun c => ?_)
    · refine j_iconst (pc' := 360) (v := 0) rfl rfl dL_law_359 ?_
      rw [hz.1 c] at hc1
      exact hc1
    · refine j_iconst (pc' := 356) (v := 1) rfl rfl dL_law_355 ?_
      refine j_goto (tg := 360) rfl dL_law_356 ?_
      rw [hz.2 c] at hc1
      exact hc1
  refine j_callV (pc' := 363) (LM_shut e2) cv_RL_37 ⟨le_b rfl, le_b rfl⟩ (hp_e rfl) rfl rfl (le_b rfl) (rm_w2 ht (le_b rfl) (le_b rfl)) rfl rfl dL_law_360 (fun _ _ hPq => ?_)
  obtain ⟨rfl, rfl⟩ := hPq
  refine j_ic_eq (tg := 1312) (pc' := 366) rfl rfl dL_law_363 (fun _ => ?_) (fun hne => absurd rfl hne)
  exact j_wide (nxt_le ht).1 (nxt_le ht).2 (kk σ2 o5 o6 o7 hI2)
theorem lc_shut : LC l D dA H0 b L xs h0 Po 291 := by
  intro t i σ o5 o6 o7 ht hv hI kk
  by_cases c : xs (i + 4).toNatClampNeg = 0
  · exact lc_shut_b (z := 0) ht hv ⟨fun _ => rfl, fun h => absurd c h⟩ hI kk
  · exact lc_shut_b (z := 1) ht hv ⟨fun h => absurd h c, fun _ => rfl⟩ hI kk
theorem lc_open : LC l D dA H0 b L xs h0 Po 368 := by
  intro t i σ o5 o6 o7 ht hv hI kk
  obtain ⟨r, σ1, σ2, e1, e2, hI2⟩ := E_open (x1 := (xs (i + 1).toNatClampNeg)) (x2 := (xs (i + 2).toNatClampNeg)) hI
  refine j_aload_n (pc' := 369) rfl rfl dL_law_368 ?_
  refine j_arg (v := 1) (pc' := 375) rfl rfl hv.1 rfl dL_law_369 dL_law_370 dL_law_372 dL_law_373 dL_law_374 ?_
  refine j_arg (v := 2) (pc' := 381) rfl rfl hv.2.1 rfl dL_law_375 dL_law_376 dL_law_378 dL_law_379 dL_law_380 ?_
  refine j_callV (pc' := 384) (LG_open e1) cv_RL_38 ⟨le_b rfl, le_b rfl⟩ (hp_e rfl) rfl rfl (le_b rfl) (rm_w ht (le_b rfl) (le_b rfl)) rfl rfl dL_law_381 (fun _ _ hPq => ?_)
  obtain ⟨rfl, rfl⟩ := hPq
  refine j_wide (k' := 100 + 8 * t + 4) (n' := 5000 + 80 * t + 70) (Nat.add_le_add_left (le_b rfl) _) (Nat.add_le_add_left (le_b rfl) _) ?_
  refine j_aload_n (pc' := 385) rfl rfl dL_law_384 ?_
  refine j_arg (v := 1) (pc' := 391) rfl rfl hv.1 rfl dL_law_385 dL_law_386 dL_law_388 dL_law_389 dL_law_390 ?_
  refine j_arg (v := 2) (pc' := 397) rfl rfl hv.2.1 rfl dL_law_391 dL_law_392 dL_law_394 dL_law_395 dL_law_396 ?_
  refine j_callV (pc' := 400) (LM_open e2) cv_RL_42 ⟨le_b rfl, le_b rfl⟩ (hp_e rfl) rfl rfl (le_b rfl) (rm_w2 ht (le_b rfl) (le_b rfl)) rfl rfl dL_law_397 (fun _ _ hPq => ?_)
  obtain ⟨rfl, rfl⟩ := hPq
  refine j_ic_eq (tg := 1312) (pc' := 403) rfl rfl dL_law_400 (fun _ => ?_) (fun hne => absurd rfl hne)
  exact j_wide (nxt_le ht).1 (nxt_le ht).2 (kk σ2 o5 o6 o7 hI2)
theorem lc_close : LC l D dA H0 b L xs h0 Po 405 := by
  intro t i σ o5 o6 o7 ht hv hI kk
  obtain ⟨r, σ1, σ2, e1, e2, hI2⟩ := E_close (x1 := (xs (i + 1).toNatClampNeg)) hI
  refine j_aload_n (pc' := 406) rfl rfl dL_law_405 ?_
  refine j_arg (v := 1) (pc' := 412) rfl rfl hv.1 rfl dL_law_406 dL_law_407 dL_law_409 dL_law_410 dL_law_411 ?_
  refine j_callV (pc' := 415) (LG_close e1) cv_RL_43 ⟨le_b rfl, le_b rfl⟩ (hp_e rfl) rfl rfl (le_b rfl) (rm_w ht (le_b rfl) (le_b rfl)) rfl rfl dL_law_412 (fun _ _ hPq => ?_)
  obtain ⟨rfl, rfl⟩ := hPq
  refine j_wide (k' := 100 + 8 * t + 4) (n' := 5000 + 80 * t + 70) (Nat.add_le_add_left (le_b rfl) _) (Nat.add_le_add_left (le_b rfl) _) ?_
  refine j_aload_n (pc' := 416) rfl rfl dL_law_415 ?_
  refine j_arg (v := 1) (pc' := 422) rfl rfl hv.1 rfl dL_law_416 dL_law_417 dL_law_419 dL_law_420 dL_law_421 ?_
  refine j_callV (pc' := 425) (LM_close e2) cv_RL_46 ⟨le_b rfl, le_b rfl⟩ (hp_e rfl) rfl rfl (le_b rfl) (rm_w2 ht (le_b rfl) (le_b rfl)) rfl rfl dL_law_422 (fun _ _ hPq => ?_)
  obtain ⟨rfl, rfl⟩ := hPq
  refine j_ic_eq (tg := 1312) (pc' := 428) rfl rfl dL_law_425 (fun _ => ?_) (fun hne => absurd rfl hne)
  exact j_wide (nxt_le ht).1 (nxt_le ht).2 (kk σ2 o5 o6 o7 hI2)
theorem lc_look : LC l D dA H0 b L xs h0 Po 430 := by
  intro t i σ o5 o6 o7 ht hv hI kk
  obtain ⟨r, σ1, σ2, e1, e2, hI2⟩ := E_look (x1 := (xs (i + 1).toNatClampNeg)) (x2 := (xs (i + 2).toNatClampNeg)) hI
  refine j_aload_n (pc' := 431) rfl rfl dL_law_430 ?_
  refine j_arg (v := 1) (pc' := 437) rfl rfl hv.1 rfl dL_law_431 dL_law_432 dL_law_434 dL_law_435 dL_law_436 ?_
  refine j_arg (v := 2) (pc' := 443) rfl rfl hv.2.1 rfl dL_law_437 dL_law_438 dL_law_440 dL_law_441 dL_law_442 ?_
  refine j_callV (pc' := 446) (LG_look e1) cv_RL_47 ⟨le_b rfl, le_b rfl⟩ (hp_e rfl) rfl rfl (le_b rfl) (rm_w ht (le_b rfl) (le_b rfl)) rfl rfl dL_law_443 (fun _ _ hPq => ?_)
  obtain ⟨rfl, rfl⟩ := hPq
  refine j_wide (k' := 100 + 8 * t + 4) (n' := 5000 + 80 * t + 70) (Nat.add_le_add_left (le_b rfl) _) (Nat.add_le_add_left (le_b rfl) _) ?_
  refine j_aload_n (pc' := 447) rfl rfl dL_law_446 ?_
  refine j_arg (v := 1) (pc' := 453) rfl rfl hv.1 rfl dL_law_447 dL_law_448 dL_law_450 dL_law_451 dL_law_452 ?_
  refine j_arg (v := 2) (pc' := 459) rfl rfl hv.2.1 rfl dL_law_453 dL_law_454 dL_law_456 dL_law_457 dL_law_458 ?_
  refine j_callV (pc' := 462) (LM_look e2) cv_RL_50 ⟨le_b rfl, le_b rfl⟩ (hp_e rfl) rfl rfl (le_b rfl) (rm_w2 ht (le_b rfl) (le_b rfl)) rfl rfl dL_law_459 (fun _ _ hPq => ?_)
  obtain ⟨rfl, rfl⟩ := hPq
  refine j_ic_eq (tg := 1312) (pc' := 465) rfl rfl dL_law_462 (fun _ => ?_) (fun hne => absurd rfl hne)
  exact j_wide (nxt_le ht).1 (nxt_le ht).2 (kk σ2 o5 o6 o7 hI2)
theorem lc_night : LC l D dA H0 b L xs h0 Po 467 := by
  intro t i σ o5 o6 o7 ht hv hI kk
  obtain ⟨r, σ1, σ2, e1, e2, hI2⟩ := E_night (x1 := (xs (i + 1).toNatClampNeg)) (x2 := (xs (i + 2).toNatClampNeg)) hI
  refine j_aload_n (pc' := 468) rfl rfl dL_law_467 ?_
  refine j_arg (v := 1) (pc' := 474) rfl rfl hv.1 rfl dL_law_468 dL_law_469 dL_law_471 dL_law_472 dL_law_473 ?_
  refine j_arg (v := 2) (pc' := 480) rfl rfl hv.2.1 rfl dL_law_474 dL_law_475 dL_law_477 dL_law_478 dL_law_479 ?_
  refine j_callV (pc' := 483) (LG_night e1) cv_RL_51 ⟨le_b rfl, le_b rfl⟩ (hp_e rfl) rfl rfl (le_b rfl) (rm_w ht (le_b rfl) (le_b rfl)) rfl rfl dL_law_480 (fun _ _ hPq => ?_)
  obtain ⟨rfl, rfl⟩ := hPq
  refine j_wide (k' := 100 + 8 * t + 4) (n' := 5000 + 80 * t + 70) (Nat.add_le_add_left (le_b rfl) _) (Nat.add_le_add_left (le_b rfl) _) ?_
  refine j_aload_n (pc' := 484) rfl rfl dL_law_483 ?_
  refine j_arg (v := 1) (pc' := 490) rfl rfl hv.1 rfl dL_law_484 dL_law_485 dL_law_487 dL_law_488 dL_law_489 ?_
  refine j_arg (v := 2) (pc' := 496) rfl rfl hv.2.1 rfl dL_law_490 dL_law_491 dL_law_493 dL_law_494 dL_law_495 ?_
  refine j_callV (pc' := 499) (LM_night e2) cv_RL_54 ⟨le_b rfl, le_b rfl⟩ (hp_e rfl) rfl rfl (le_b rfl) (rm_w2 ht (le_b rfl) (le_b rfl)) rfl rfl dL_law_496 (fun _ _ hPq => ?_)
  obtain ⟨rfl, rfl⟩ := hPq
  refine j_ic_eq (tg := 1312) (pc' := 502) rfl rfl dL_law_499 (fun _ => ?_) (fun hne => absurd rfl hne)
  exact j_wide (nxt_le ht).1 (nxt_le ht).2 (kk σ2 o5 o6 o7 hI2)
theorem lc_can : LC l D dA H0 b L xs h0 Po 504 := by
  intro t i σ o5 o6 o7 ht hv hI kk
  obtain ⟨r, σ1, σ2, e1, e2, hI2⟩ := E_can (x1 := (xs (i + 1).toNatClampNeg)) (x2 := (xs (i + 2).toNatClampNeg)) (x3 := (xs (i + 3).toNatClampNeg)) (x4 := (xs (i + 4).toNatClampNeg)) hI
  refine j_aload_n (pc' := 505) rfl rfl dL_law_504 ?_
  refine j_arg (v := 1) (pc' := 511) rfl rfl hv.1 rfl dL_law_505 dL_law_506 dL_law_508 dL_law_509 dL_law_510 ?_
  refine j_arg (v := 2) (pc' := 517) rfl rfl hv.2.1 rfl dL_law_511 dL_law_512 dL_law_514 dL_law_515 dL_law_516 ?_
  refine j_arg (v := 3) (pc' := 523) rfl rfl hv.2.2.1 rfl dL_law_517 dL_law_518 dL_law_520 dL_law_521 dL_law_522 ?_
  refine j_arg (v := 4) (pc' := 529) rfl rfl hv.2.2.2.1 rfl dL_law_523 dL_law_524 dL_law_526 dL_law_527 dL_law_528 ?_
  refine j_callV (pc' := 532) (LG_can e1) cv_RL_55 ⟨le_b rfl, le_b rfl⟩ (hp_e rfl) rfl rfl (le_b rfl) (rm_w ht (le_b rfl) (le_b rfl)) rfl rfl dL_law_529 (fun _ _ hPq => ?_)
  obtain ⟨rfl, rfl⟩ := hPq
  refine j_wide (k' := 100 + 8 * t + 4) (n' := 5000 + 80 * t + 70) (Nat.add_le_add_left (le_b rfl) _) (Nat.add_le_add_left (le_b rfl) _) ?_
  refine j_aload_n (pc' := 533) rfl rfl dL_law_532 ?_
  refine j_arg (v := 1) (pc' := 539) rfl rfl hv.1 rfl dL_law_533 dL_law_534 dL_law_536 dL_law_537 dL_law_538 ?_
  refine j_arg (v := 2) (pc' := 545) rfl rfl hv.2.1 rfl dL_law_539 dL_law_540 dL_law_542 dL_law_543 dL_law_544 ?_
  refine j_arg (v := 3) (pc' := 551) rfl rfl hv.2.2.1 rfl dL_law_545 dL_law_546 dL_law_548 dL_law_549 dL_law_550 ?_
  refine j_arg (v := 4) (pc' := 557) rfl rfl hv.2.2.2.1 rfl dL_law_551 dL_law_552 dL_law_554 dL_law_555 dL_law_556 ?_
  refine j_callV (pc' := 560) (LM_can e2) cv_RL_59 ⟨le_b rfl, le_b rfl⟩ (hp_e rfl) rfl rfl (le_b rfl) (rm_w2 ht (le_b rfl) (le_b rfl)) rfl rfl dL_law_557 (fun _ _ hPq => ?_)
  obtain ⟨rfl, rfl⟩ := hPq
  refine j_ic_eq (tg := 1312) (pc' := 563) rfl rfl dL_law_560 (fun _ => ?_) (fun hne => absurd rfl hne)
  exact j_wide (nxt_le ht).1 (nxt_le ht).2 (kk σ2 o5 o6 o7 hI2)
theorem lc_promise : LC l D dA H0 b L xs h0 Po 565 := by
  intro t i σ o5 o6 o7 ht hv hI kk
  obtain ⟨r, σ1, σ2, e1, e2, hI2⟩ := E_promise (x1 := (xs (i + 1).toNatClampNeg)) (x2 := (xs (i + 2).toNatClampNeg)) (x3 := (xs (i + 3).toNatClampNeg)) (x4 := (xs (i + 4).toNatClampNeg)) (x5 := (xs (i + 5).toNatClampNeg)) hI
  refine j_aload_n (pc' := 566) rfl rfl dL_law_565 ?_
  refine j_arg (v := 1) (pc' := 572) rfl rfl hv.1 rfl dL_law_566 dL_law_567 dL_law_569 dL_law_570 dL_law_571 ?_
  refine j_arg (v := 2) (pc' := 578) rfl rfl hv.2.1 rfl dL_law_572 dL_law_573 dL_law_575 dL_law_576 dL_law_577 ?_
  refine j_arg (v := 3) (pc' := 584) rfl rfl hv.2.2.1 rfl dL_law_578 dL_law_579 dL_law_581 dL_law_582 dL_law_583 ?_
  refine j_arg (v := 4) (pc' := 590) rfl rfl hv.2.2.2.1 rfl dL_law_584 dL_law_585 dL_law_587 dL_law_588 dL_law_589 ?_
  refine j_arg (v := 5) (pc' := 596) rfl rfl hv.2.2.2.2 rfl dL_law_590 dL_law_591 dL_law_593 dL_law_594 dL_law_595 ?_
  refine j_callV (pc' := 599) (LG_promise e1) cv_RL_60 ⟨le_b rfl, le_b rfl⟩ (hp_e rfl) rfl rfl (le_b rfl) (rm_w ht (le_b rfl) (le_b rfl)) rfl rfl dL_law_596 (fun _ _ hPq => ?_)
  obtain ⟨rfl, rfl⟩ := hPq
  refine j_wide (k' := 100 + 8 * t + 4) (n' := 5000 + 80 * t + 70) (Nat.add_le_add_left (le_b rfl) _) (Nat.add_le_add_left (le_b rfl) _) ?_
  refine j_aload_n (pc' := 600) rfl rfl dL_law_599 ?_
  refine j_arg (v := 1) (pc' := 606) rfl rfl hv.1 rfl dL_law_600 dL_law_601 dL_law_603 dL_law_604 dL_law_605 ?_
  refine j_arg (v := 2) (pc' := 612) rfl rfl hv.2.1 rfl dL_law_606 dL_law_607 dL_law_609 dL_law_610 dL_law_611 ?_
  refine j_arg (v := 3) (pc' := 618) rfl rfl hv.2.2.1 rfl dL_law_612 dL_law_613 dL_law_615 dL_law_616 dL_law_617 ?_
  refine j_arg (v := 4) (pc' := 624) rfl rfl hv.2.2.2.1 rfl dL_law_618 dL_law_619 dL_law_621 dL_law_622 dL_law_623 ?_
  refine j_arg (v := 5) (pc' := 630) rfl rfl hv.2.2.2.2 rfl dL_law_624 dL_law_625 dL_law_627 dL_law_628 dL_law_629 ?_
  refine j_callV (pc' := 633) (LM_promise e2) cv_RL_64 ⟨le_b rfl, le_b rfl⟩ (hp_e rfl) rfl rfl (le_b rfl) (rm_w2 ht (le_b rfl) (le_b rfl)) rfl rfl dL_law_630 (fun _ _ hPq => ?_)
  obtain ⟨rfl, rfl⟩ := hPq
  refine j_ic_eq (tg := 1312) (pc' := 636) rfl rfl dL_law_633 (fun _ => ?_) (fun hne => absurd rfl hne)
  exact j_wide (nxt_le ht).1 (nxt_le ht).2 (kk σ2 o5 o6 o7 hI2)
theorem lc_firm : LC l D dA H0 b L xs h0 Po 638 := by
  intro t i σ o5 o6 o7 ht hv hI kk
  obtain ⟨r, σ1, σ2, e1, e2, hI2⟩ := E_firm (x1 := (xs (i + 1).toNatClampNeg)) hI
  refine j_aload_n (pc' := 639) rfl rfl dL_law_638 ?_
  refine j_arg (v := 1) (pc' := 645) rfl rfl hv.1 rfl dL_law_639 dL_law_640 dL_law_642 dL_law_643 dL_law_644 ?_
  refine j_callV (pc' := 648) (LG_firm e1) cv_RL_65 ⟨le_b rfl, le_b rfl⟩ (hp_e rfl) rfl rfl (le_b rfl) (rm_w ht (le_b rfl) (le_b rfl)) rfl rfl dL_law_645 (fun _ _ hPq => ?_)
  obtain ⟨rfl, rfl⟩ := hPq
  refine j_wide (k' := 100 + 8 * t + 4) (n' := 5000 + 80 * t + 70) (Nat.add_le_add_left (le_b rfl) _) (Nat.add_le_add_left (le_b rfl) _) ?_
  refine j_aload_n (pc' := 649) rfl rfl dL_law_648 ?_
  refine j_arg (v := 1) (pc' := 655) rfl rfl hv.1 rfl dL_law_649 dL_law_650 dL_law_652 dL_law_653 dL_law_654 ?_
  refine j_callV (pc' := 658) (LM_firm e2) cv_RL_68 ⟨le_b rfl, le_b rfl⟩ (hp_e rfl) rfl rfl (le_b rfl) (rm_w2 ht (le_b rfl) (le_b rfl)) rfl rfl dL_law_655 (fun _ _ hPq => ?_)
  obtain ⟨rfl, rfl⟩ := hPq
  refine j_ic_eq (tg := 1312) (pc' := 661) rfl rfl dL_law_658 (fun _ => ?_) (fun hne => absurd rfl hne)
  exact j_wide (nxt_le ht).1 (nxt_le ht).2 (kk σ2 o5 o6 o7 hI2)
theorem lc_cancel : LC l D dA H0 b L xs h0 Po 663 := by
  intro t i σ o5 o6 o7 ht hv hI kk
  obtain ⟨r, σ1, σ2, e1, e2, hI2⟩ := E_cancel (x1 := (xs (i + 1).toNatClampNeg)) hI
  refine j_aload_n (pc' := 664) rfl rfl dL_law_663 ?_
  refine j_arg (v := 1) (pc' := 670) rfl rfl hv.1 rfl dL_law_664 dL_law_665 dL_law_667 dL_law_668 dL_law_669 ?_
  refine j_callV (pc' := 673) (LG_cancel e1) cv_RL_69 ⟨le_b rfl, le_b rfl⟩ (hp_e rfl) rfl rfl (le_b rfl) (rm_w ht (le_b rfl) (le_b rfl)) rfl rfl dL_law_670 (fun _ _ hPq => ?_)
  obtain ⟨rfl, rfl⟩ := hPq
  refine j_wide (k' := 100 + 8 * t + 4) (n' := 5000 + 80 * t + 70) (Nat.add_le_add_left (le_b rfl) _) (Nat.add_le_add_left (le_b rfl) _) ?_
  refine j_aload_n (pc' := 674) rfl rfl dL_law_673 ?_
  refine j_arg (v := 1) (pc' := 680) rfl rfl hv.1 rfl dL_law_674 dL_law_675 dL_law_677 dL_law_678 dL_law_679 ?_
  refine j_callV (pc' := 683) (LM_cancel e2) cv_RL_72 ⟨le_b rfl, le_b rfl⟩ (hp_e rfl) rfl rfl (le_b rfl) (rm_w2 ht (le_b rfl) (le_b rfl)) rfl rfl dL_law_680 (fun _ _ hPq => ?_)
  obtain ⟨rfl, rfl⟩ := hPq
  refine j_ic_eq (tg := 1312) (pc' := 686) rfl rfl dL_law_683 (fun _ => ?_) (fun hne => absurd rfl hne)
  exact j_wide (nxt_le ht).1 (nxt_le ht).2 (kk σ2 o5 o6 o7 hI2)
theorem lc_change : LC l D dA H0 b L xs h0 Po 688 := by
  intro t i σ o5 o6 o7 ht hv hI kk
  obtain ⟨r, σ1, σ2, e1, e2, hI2⟩ := E_change (x1 := (xs (i + 1).toNatClampNeg)) (x2 := (xs (i + 2).toNatClampNeg)) (x3 := (xs (i + 3).toNatClampNeg)) hI
  refine j_aload_n (pc' := 689) rfl rfl dL_law_688 ?_
  refine j_arg (v := 1) (pc' := 695) rfl rfl hv.1 rfl dL_law_689 dL_law_690 dL_law_692 dL_law_693 dL_law_694 ?_
  refine j_arg (v := 2) (pc' := 701) rfl rfl hv.2.1 rfl dL_law_695 dL_law_696 dL_law_698 dL_law_699 dL_law_700 ?_
  refine j_arg (v := 3) (pc' := 707) rfl rfl hv.2.2.1 rfl dL_law_701 dL_law_702 dL_law_704 dL_law_705 dL_law_706 ?_
  refine j_callV (pc' := 710) (LG_change e1) cv_RL_73 ⟨le_b rfl, le_b rfl⟩ (hp_e rfl) rfl rfl (le_b rfl) (rm_w ht (le_b rfl) (le_b rfl)) rfl rfl dL_law_707 (fun _ _ hPq => ?_)
  obtain ⟨rfl, rfl⟩ := hPq
  refine j_wide (k' := 100 + 8 * t + 4) (n' := 5000 + 80 * t + 70) (Nat.add_le_add_left (le_b rfl) _) (Nat.add_le_add_left (le_b rfl) _) ?_
  refine j_aload_n (pc' := 711) rfl rfl dL_law_710 ?_
  refine j_arg (v := 1) (pc' := 717) rfl rfl hv.1 rfl dL_law_711 dL_law_712 dL_law_714 dL_law_715 dL_law_716 ?_
  refine j_arg (v := 2) (pc' := 723) rfl rfl hv.2.1 rfl dL_law_717 dL_law_718 dL_law_720 dL_law_721 dL_law_722 ?_
  refine j_arg (v := 3) (pc' := 729) rfl rfl hv.2.2.1 rfl dL_law_723 dL_law_724 dL_law_726 dL_law_727 dL_law_728 ?_
  refine j_callV (pc' := 732) (LM_change e2) cv_RL_77 ⟨le_b rfl, le_b rfl⟩ (hp_e rfl) rfl rfl (le_b rfl) (rm_w2 ht (le_b rfl) (le_b rfl)) rfl rfl dL_law_729 (fun _ _ hPq => ?_)
  obtain ⟨rfl, rfl⟩ := hPq
  refine j_ic_eq (tg := 1312) (pc' := 735) rfl rfl dL_law_732 (fun _ => ?_) (fun hne => absurd rfl hne)
  exact j_wide (nxt_le ht).1 (nxt_le ht).2 (kk σ2 o5 o6 o7 hI2)
theorem lc_come : LC l D dA H0 b L xs h0 Po 737 := by
  intro t i σ o5 o6 o7 ht hv hI kk
  obtain ⟨r, σ1, σ2, e1, e2, hI2⟩ := E_come (x1 := (xs (i + 1).toNatClampNeg)) hI
  refine j_aload_n (pc' := 738) rfl rfl dL_law_737 ?_
  refine j_arg (v := 1) (pc' := 744) rfl rfl hv.1 rfl dL_law_738 dL_law_739 dL_law_741 dL_law_742 dL_law_743 ?_
  refine j_callV (pc' := 747) (LG_come e1) cv_RL_78 ⟨le_b rfl, le_b rfl⟩ (hp_e rfl) rfl rfl (le_b rfl) (rm_w ht (le_b rfl) (le_b rfl)) rfl rfl dL_law_744 (fun _ _ hPq => ?_)
  obtain ⟨rfl, rfl⟩ := hPq
  refine j_wide (k' := 100 + 8 * t + 4) (n' := 5000 + 80 * t + 70) (Nat.add_le_add_left (le_b rfl) _) (Nat.add_le_add_left (le_b rfl) _) ?_
  refine j_aload_n (pc' := 748) rfl rfl dL_law_747 ?_
  refine j_arg (v := 1) (pc' := 754) rfl rfl hv.1 rfl dL_law_748 dL_law_749 dL_law_751 dL_law_752 dL_law_753 ?_
  refine j_callV (pc' := 757) (LM_come e2) cv_RL_81 ⟨le_b rfl, le_b rfl⟩ (hp_e rfl) rfl rfl (le_b rfl) (rm_w2 ht (le_b rfl) (le_b rfl)) rfl rfl dL_law_754 (fun _ _ hPq => ?_)
  obtain ⟨rfl, rfl⟩ := hPq
  refine j_ic_eq (tg := 1312) (pc' := 760) rfl rfl dL_law_757 (fun _ => ?_) (fun hne => absurd rfl hne)
  exact j_wide (nxt_le ht).1 (nxt_le ht).2 (kk σ2 o5 o6 o7 hI2)
theorem lc_next : LC l D dA H0 b L xs h0 Po 762 := by
  intro t i σ o5 o6 o7 ht hv hI kk
  obtain ⟨r, σ1, σ2, e1, e2, hI2⟩ := E_next  hI
  refine j_aload_n (pc' := 763) rfl rfl dL_law_762 ?_
  refine j_callV (pc' := 766) (LG_next e1) cv_RL_82 ⟨le_b rfl, le_b rfl⟩ (hp_e rfl) rfl rfl (le_b rfl) (rm_w ht (le_b rfl) (le_b rfl)) rfl rfl dL_law_763 (fun _ _ hPq => ?_)
  obtain ⟨rfl, rfl⟩ := hPq
  refine j_wide (k' := 100 + 8 * t + 4) (n' := 5000 + 80 * t + 70) (Nat.add_le_add_left (le_b rfl) _) (Nat.add_le_add_left (le_b rfl) _) ?_
  refine j_aload_n (pc' := 767) rfl rfl dL_law_766 ?_
  refine j_callV (pc' := 770) (LM_next e2) cv_RL_86 ⟨le_b rfl, le_b rfl⟩ (hp_e rfl) rfl rfl (le_b rfl) (rm_w2 ht (le_b rfl) (le_b rfl)) rfl rfl dL_law_767 (fun _ _ hPq => ?_)
  obtain ⟨rfl, rfl⟩ := hPq
  refine j_ic_eq (tg := 1312) (pc' := 773) rfl rfl dL_law_770 (fun _ => ?_) (fun hne => absurd rfl hne)
  exact j_wide (nxt_le ht).1 (nxt_le ht).2 (kk σ2 o5 o6 o7 hI2)
theorem lc_spot : LC l D dA H0 b L xs h0 Po 842 := by
  intro t i σ o5 o6 o7 ht hv hI kk
  obtain ⟨r, σ1, σ2, e1, e2, hI2⟩ := E_spot (x1 := (xs (i + 1).toNatClampNeg)) (x2 := (xs (i + 2).toNatClampNeg)) hI
  refine j_aload_n (pc' := 843) rfl rfl dL_law_842 ?_
  refine j_arg (v := 1) (pc' := 849) rfl rfl hv.1 rfl dL_law_843 dL_law_844 dL_law_846 dL_law_847 dL_law_848 ?_
  refine j_arg (v := 2) (pc' := 855) rfl rfl hv.2.1 rfl dL_law_849 dL_law_850 dL_law_852 dL_law_853 dL_law_854 ?_
  refine j_callV (pc' := 858) (LG_spot e1) cv_RL_96 ⟨le_b rfl, le_b rfl⟩ (hp_e rfl) rfl rfl (le_b rfl) (rm_w ht (le_b rfl) (le_b rfl)) rfl rfl dL_law_855 (fun _ _ hPq => ?_)
  obtain ⟨rfl, rfl⟩ := hPq
  refine j_wide (k' := 100 + 8 * t + 4) (n' := 5000 + 80 * t + 70) (Nat.add_le_add_left (le_b rfl) _) (Nat.add_le_add_left (le_b rfl) _) ?_
  refine j_aload_n (pc' := 859) rfl rfl dL_law_858 ?_
  refine j_arg (v := 1) (pc' := 865) rfl rfl hv.1 rfl dL_law_859 dL_law_860 dL_law_862 dL_law_863 dL_law_864 ?_
  refine j_arg (v := 2) (pc' := 871) rfl rfl hv.2.1 rfl dL_law_865 dL_law_866 dL_law_868 dL_law_869 dL_law_870 ?_
  refine j_callV (pc' := 874) (LM_spot e2) cv_RL_99 ⟨le_b rfl, le_b rfl⟩ (hp_e rfl) rfl rfl (le_b rfl) (rm_w2 ht (le_b rfl) (le_b rfl)) rfl rfl dL_law_871 (fun _ _ hPq => ?_)
  obtain ⟨rfl, rfl⟩ := hPq
  refine j_ic_eq (tg := 1312) (pc' := 877) rfl rfl dL_law_874 (fun _ => ?_) (fun hne => absurd rfl hne)
  exact j_wide (nxt_le ht).1 (nxt_le ht).2 (kk σ2 o5 o6 o7 hI2)
theorem lc_moves : LC l D dA H0 b L xs h0 Po 879 := by
  intro t i σ o5 o6 o7 ht hv hI kk
  obtain ⟨r, σ1, σ2, e1, e2, hI2⟩ := E_moves  hI
  refine j_aload_n (pc' := 880) rfl rfl dL_law_879 ?_
  refine j_callV (pc' := 883) (LG_moves e1) cv_RL_100 ⟨le_b rfl, le_b rfl⟩ (hp_e rfl) rfl rfl (le_b rfl) (rm_w ht (le_b rfl) (le_b rfl)) rfl rfl dL_law_880 (fun _ _ hPq => ?_)
  obtain ⟨rfl, rfl⟩ := hPq
  refine j_wide (k' := 100 + 8 * t + 4) (n' := 5000 + 80 * t + 70) (Nat.add_le_add_left (le_b rfl) _) (Nat.add_le_add_left (le_b rfl) _) ?_
  refine j_aload_n (pc' := 884) rfl rfl dL_law_883 ?_
  refine j_callV (pc' := 887) (LM_moves e2) cv_RL_103 ⟨le_b rfl, le_b rfl⟩ (hp_e rfl) rfl rfl (le_b rfl) (rm_w2 ht (le_b rfl) (le_b rfl)) rfl rfl dL_law_884 (fun _ _ hPq => ?_)
  obtain ⟨rfl, rfl⟩ := hPq
  refine j_ic_eq (tg := 1312) (pc' := 890) rfl rfl dL_law_887 (fun _ => ?_) (fun hne => absurd rfl hne)
  exact j_wide (nxt_le ht).1 (nxt_le ht).2 (kk σ2 o5 o6 o7 hI2)
theorem lc_floors : LC l D dA H0 b L xs h0 Po 892 := by
  intro t i σ o5 o6 o7 ht hv hI kk
  obtain ⟨r, σ1, σ2, e1, e2, hI2⟩ := E_floors (x1 := (xs (i + 1).toNatClampNeg)) (x2 := (xs (i + 2).toNatClampNeg)) (x3 := (xs (i + 3).toNatClampNeg)) hI
  refine j_aload_n (pc' := 893) rfl rfl dL_law_892 ?_
  refine j_arg (v := 1) (pc' := 899) rfl rfl hv.1 rfl dL_law_893 dL_law_894 dL_law_896 dL_law_897 dL_law_898 ?_
  refine j_arg (v := 2) (pc' := 905) rfl rfl hv.2.1 rfl dL_law_899 dL_law_900 dL_law_902 dL_law_903 dL_law_904 ?_
  refine j_arg (v := 3) (pc' := 911) rfl rfl hv.2.2.1 rfl dL_law_905 dL_law_906 dL_law_908 dL_law_909 dL_law_910 ?_
  refine j_callV (pc' := 914) (LG_floors e1) cv_RL_104 ⟨le_b rfl, le_b rfl⟩ (hp_e rfl) rfl rfl (le_b rfl) (rm_w ht (le_b rfl) (le_b rfl)) rfl rfl dL_law_911 (fun _ _ hPq => ?_)
  obtain ⟨rfl, rfl⟩ := hPq
  refine j_wide (k' := 100 + 8 * t + 4) (n' := 5000 + 80 * t + 70) (Nat.add_le_add_left (le_b rfl) _) (Nat.add_le_add_left (le_b rfl) _) ?_
  refine j_aload_n (pc' := 915) rfl rfl dL_law_914 ?_
  refine j_arg (v := 1) (pc' := 921) rfl rfl hv.1 rfl dL_law_915 dL_law_916 dL_law_918 dL_law_919 dL_law_920 ?_
  refine j_arg (v := 2) (pc' := 927) rfl rfl hv.2.1 rfl dL_law_921 dL_law_922 dL_law_924 dL_law_925 dL_law_926 ?_
  refine j_arg (v := 3) (pc' := 933) rfl rfl hv.2.2.1 rfl dL_law_927 dL_law_928 dL_law_930 dL_law_931 dL_law_932 ?_
  refine j_callV (pc' := 936) (LM_floors e2) cv_RL_107 ⟨le_b rfl, le_b rfl⟩ (hp_e rfl) rfl rfl (le_b rfl) (rm_w2 ht (le_b rfl) (le_b rfl)) rfl rfl dL_law_933 (fun _ _ hPq => ?_)
  obtain ⟨rfl, rfl⟩ := hPq
  refine j_ic_eq (tg := 1312) (pc' := 939) rfl rfl dL_law_936 (fun _ => ?_) (fun hne => absurd rfl hne)
  exact j_wide (nxt_le ht).1 (nxt_le ht).2 (kk σ2 o5 o6 o7 hI2)
theorem lc_lacks : LC l D dA H0 b L xs h0 Po 941 := by
  intro t i σ o5 o6 o7 ht hv hI kk
  obtain ⟨r, σ1, σ2, e1, e2, hI2⟩ := E_lacks (x1 := (xs (i + 1).toNatClampNeg)) hI
  refine j_aload_n (pc' := 942) rfl rfl dL_law_941 ?_
  refine j_arg (v := 1) (pc' := 948) rfl rfl hv.1 rfl dL_law_942 dL_law_943 dL_law_945 dL_law_946 dL_law_947 ?_
  refine j_callV (pc' := 951) (LG_lacks e1) cv_RL_108 ⟨le_b rfl, le_b rfl⟩ (hp_e rfl) rfl rfl (le_b rfl) (rm_w ht (le_b rfl) (le_b rfl)) rfl rfl dL_law_948 (fun _ _ hPq => ?_)
  obtain ⟨rfl, rfl⟩ := hPq
  refine j_wide (k' := 100 + 8 * t + 4) (n' := 5000 + 80 * t + 70) (Nat.add_le_add_left (le_b rfl) _) (Nat.add_le_add_left (le_b rfl) _) ?_
  refine j_aload_n (pc' := 952) rfl rfl dL_law_951 ?_
  refine j_arg (v := 1) (pc' := 958) rfl rfl hv.1 rfl dL_law_952 dL_law_953 dL_law_955 dL_law_956 dL_law_957 ?_
  refine j_callV (pc' := 961) (LM_lacks e2) cv_RL_112 ⟨le_b rfl, le_b rfl⟩ (hp_e rfl) rfl rfl (le_b rfl) (rm_w2 ht (le_b rfl) (le_b rfl)) rfl rfl dL_law_958 (fun _ _ hPq => ?_)
  obtain ⟨rfl, rfl⟩ := hPq
  refine j_ic_eq (tg := 1312) (pc' := 964) rfl rfl dL_law_961 (fun _ => ?_) (fun hne => absurd rfl hne)
  exact j_wide (nxt_le ht).1 (nxt_le ht).2 (kk σ2 o5 o6 o7 hI2)
theorem lc_rooms : LC l D dA H0 b L xs h0 Po 966 := by
  intro t i σ o5 o6 o7 ht hv hI kk
  obtain ⟨r, σ1, σ2, e1, e2, hI2⟩ := E_rooms (x1 := (xs (i + 1).toNatClampNeg)) (x2 := (xs (i + 2).toNatClampNeg)) (x3 := (xs (i + 3).toNatClampNeg)) hI
  refine j_aload_n (pc' := 967) rfl rfl dL_law_966 ?_
  refine j_arg (v := 1) (pc' := 973) rfl rfl hv.1 rfl dL_law_967 dL_law_968 dL_law_970 dL_law_971 dL_law_972 ?_
  refine j_arg (v := 2) (pc' := 979) rfl rfl hv.2.1 rfl dL_law_973 dL_law_974 dL_law_976 dL_law_977 dL_law_978 ?_
  refine j_arg (v := 3) (pc' := 985) rfl rfl hv.2.2.1 rfl dL_law_979 dL_law_980 dL_law_982 dL_law_983 dL_law_984 ?_
  refine j_callV (pc' := 988) (LG_rooms e1) cv_RL_113 ⟨le_b rfl, le_b rfl⟩ (hp_e rfl) rfl rfl (le_b rfl) (rm_w ht (le_b rfl) (le_b rfl)) rfl rfl dL_law_985 (fun _ _ hPq => ?_)
  obtain ⟨rfl, rfl⟩ := hPq
  refine j_wide (k' := 100 + 8 * t + 4) (n' := 5000 + 80 * t + 70) (Nat.add_le_add_left (le_b rfl) _) (Nat.add_le_add_left (le_b rfl) _) ?_
  refine j_aload_n (pc' := 989) rfl rfl dL_law_988 ?_
  refine j_arg (v := 1) (pc' := 995) rfl rfl hv.1 rfl dL_law_989 dL_law_990 dL_law_992 dL_law_993 dL_law_994 ?_
  refine j_arg (v := 2) (pc' := 1001) rfl rfl hv.2.1 rfl dL_law_995 dL_law_996 dL_law_998 dL_law_999 dL_law_1000 ?_
  refine j_arg (v := 3) (pc' := 1007) rfl rfl hv.2.2.1 rfl dL_law_1001 dL_law_1002 dL_law_1004 dL_law_1005 dL_law_1006 ?_
  refine j_callV (pc' := 1010) (LM_rooms e2) cv_RL_116 ⟨le_b rfl, le_b rfl⟩ (hp_e rfl) rfl rfl (le_b rfl) (rm_w2 ht (le_b rfl) (le_b rfl)) rfl rfl dL_law_1007 (fun _ _ hPq => ?_)
  obtain ⟨rfl, rfl⟩ := hPq
  refine j_ic_eq (tg := 1312) (pc' := 1013) rfl rfl dL_law_1010 (fun _ => ?_) (fun hne => absurd rfl hne)
  exact j_wide (nxt_le ht).1 (nxt_le ht).2 (kk σ2 o5 o6 o7 hI2)
theorem lc_over : LC l D dA H0 b L xs h0 Po 1015 := by
  intro t i σ o5 o6 o7 ht hv hI kk
  obtain ⟨r, σ1, σ2, e1, e2, hI2⟩ := E_over (x1 := (xs (i + 1).toNatClampNeg)) hI
  refine j_aload_n (pc' := 1016) rfl rfl dL_law_1015 ?_
  refine j_arg (v := 1) (pc' := 1022) rfl rfl hv.1 rfl dL_law_1016 dL_law_1017 dL_law_1019 dL_law_1020 dL_law_1021 ?_
  refine j_callV (pc' := 1025) (LG_over e1) cv_RL_117 ⟨le_b rfl, le_b rfl⟩ (hp_e rfl) rfl rfl (le_b rfl) (rm_w ht (le_b rfl) (le_b rfl)) rfl rfl dL_law_1022 (fun _ _ hPq => ?_)
  obtain ⟨rfl, rfl⟩ := hPq
  refine j_wide (k' := 100 + 8 * t + 4) (n' := 5000 + 80 * t + 70) (Nat.add_le_add_left (le_b rfl) _) (Nat.add_le_add_left (le_b rfl) _) ?_
  refine j_aload_n (pc' := 1026) rfl rfl dL_law_1025 ?_
  refine j_arg (v := 1) (pc' := 1032) rfl rfl hv.1 rfl dL_law_1026 dL_law_1027 dL_law_1029 dL_law_1030 dL_law_1031 ?_
  refine j_callV (pc' := 1035) (LM_over e2) cv_RL_120 ⟨le_b rfl, le_b rfl⟩ (hp_e rfl) rfl rfl (le_b rfl) (rm_w2 ht (le_b rfl) (le_b rfl)) rfl rfl dL_law_1032 (fun _ _ hPq => ?_)
  obtain ⟨rfl, rfl⟩ := hPq
  refine j_ic_eq (tg := 1312) (pc' := 1038) rfl rfl dL_law_1035 (fun _ => ?_) (fun hne => absurd rfl hne)
  exact j_wide (nxt_le ht).1 (nxt_le ht).2 (kk σ2 o5 o6 o7 hI2)
theorem lc_price : LC l D dA H0 b L xs h0 Po 1040 := by
  intro t i σ o5 o6 o7 ht hv hI kk
  obtain ⟨r, σ1, σ2, e1, e2, hI2⟩ := E_price (x1 := (xs (i + 1).toNatClampNeg)) (x2 := (xs (i + 2).toNatClampNeg)) (x3 := (xs (i + 3).toNatClampNeg)) (x4 := (xs (i + 4).toNatClampNeg)) hI
  refine j_aload_n (pc' := 1041) rfl rfl dL_law_1040 ?_
  refine j_arg (v := 1) (pc' := 1047) rfl rfl hv.1 rfl dL_law_1041 dL_law_1042 dL_law_1044 dL_law_1045 dL_law_1046 ?_
  refine j_arg (v := 2) (pc' := 1053) rfl rfl hv.2.1 rfl dL_law_1047 dL_law_1048 dL_law_1050 dL_law_1051 dL_law_1052 ?_
  refine j_arg (v := 3) (pc' := 1059) rfl rfl hv.2.2.1 rfl dL_law_1053 dL_law_1054 dL_law_1056 dL_law_1057 dL_law_1058 ?_
  refine j_arg (v := 4) (pc' := 1065) rfl rfl hv.2.2.2.1 rfl dL_law_1059 dL_law_1060 dL_law_1062 dL_law_1063 dL_law_1064 ?_
  refine j_callV (pc' := 1068) (LG_price e1) cv_RL_121 ⟨le_b rfl, le_b rfl⟩ (hp_e rfl) rfl rfl (le_b rfl) (rm_w ht (le_b rfl) (le_b rfl)) rfl rfl dL_law_1065 (fun _ _ hPq => ?_)
  obtain ⟨rfl, rfl⟩ := hPq
  refine j_wide (k' := 100 + 8 * t + 4) (n' := 5000 + 80 * t + 70) (Nat.add_le_add_left (le_b rfl) _) (Nat.add_le_add_left (le_b rfl) _) ?_
  refine j_aload_n (pc' := 1069) rfl rfl dL_law_1068 ?_
  refine j_arg (v := 1) (pc' := 1075) rfl rfl hv.1 rfl dL_law_1069 dL_law_1070 dL_law_1072 dL_law_1073 dL_law_1074 ?_
  refine j_arg (v := 2) (pc' := 1081) rfl rfl hv.2.1 rfl dL_law_1075 dL_law_1076 dL_law_1078 dL_law_1079 dL_law_1080 ?_
  refine j_arg (v := 3) (pc' := 1087) rfl rfl hv.2.2.1 rfl dL_law_1081 dL_law_1082 dL_law_1084 dL_law_1085 dL_law_1086 ?_
  refine j_arg (v := 4) (pc' := 1093) rfl rfl hv.2.2.2.1 rfl dL_law_1087 dL_law_1088 dL_law_1090 dL_law_1091 dL_law_1092 ?_
  refine j_callV (pc' := 1096) (LM_price e2) cv_RL_125 ⟨le_b rfl, le_b rfl⟩ (hp_e rfl) rfl rfl (le_b rfl) (rm_w2 ht (le_b rfl) (le_b rfl)) rfl rfl dL_law_1093 (fun _ _ hPq => ?_)
  obtain ⟨rfl, rfl⟩ := hPq
  refine j_ic_eq (tg := 1312) (pc' := 1099) rfl rfl dL_law_1096 (fun _ => ?_) (fun hne => absurd rfl hne)
  exact j_wide (nxt_le ht).1 (nxt_le ht).2 (kk σ2 o5 o6 o7 hI2)
theorem lc_rule : LC l D dA H0 b L xs h0 Po 1101 := by
  intro t i σ o5 o6 o7 ht hv hI kk
  obtain ⟨r, σ1, σ2, e1, e2, hI2⟩ := E_rule (x1 := (xs (i + 1).toNatClampNeg)) (x2 := (xs (i + 2).toNatClampNeg)) (x3 := (xs (i + 3).toNatClampNeg)) hI
  refine j_aload_n (pc' := 1102) rfl rfl dL_law_1101 ?_
  refine j_arg (v := 1) (pc' := 1108) rfl rfl hv.1 rfl dL_law_1102 dL_law_1103 dL_law_1105 dL_law_1106 dL_law_1107 ?_
  refine j_arg (v := 2) (pc' := 1114) rfl rfl hv.2.1 rfl dL_law_1108 dL_law_1109 dL_law_1111 dL_law_1112 dL_law_1113 ?_
  refine j_arg (v := 3) (pc' := 1120) rfl rfl hv.2.2.1 rfl dL_law_1114 dL_law_1115 dL_law_1117 dL_law_1118 dL_law_1119 ?_
  refine j_callV (pc' := 1123) (LG_rule e1) cv_RL_126 ⟨le_b rfl, le_b rfl⟩ (hp_e rfl) rfl rfl (le_b rfl) (rm_w ht (le_b rfl) (le_b rfl)) rfl rfl dL_law_1120 (fun _ _ hPq => ?_)
  obtain ⟨rfl, rfl⟩ := hPq
  refine j_wide (k' := 100 + 8 * t + 4) (n' := 5000 + 80 * t + 70) (Nat.add_le_add_left (le_b rfl) _) (Nat.add_le_add_left (le_b rfl) _) ?_
  refine j_aload_n (pc' := 1124) rfl rfl dL_law_1123 ?_
  refine j_arg (v := 1) (pc' := 1130) rfl rfl hv.1 rfl dL_law_1124 dL_law_1125 dL_law_1127 dL_law_1128 dL_law_1129 ?_
  refine j_arg (v := 2) (pc' := 1136) rfl rfl hv.2.1 rfl dL_law_1130 dL_law_1131 dL_law_1133 dL_law_1134 dL_law_1135 ?_
  refine j_arg (v := 3) (pc' := 1142) rfl rfl hv.2.2.1 rfl dL_law_1136 dL_law_1137 dL_law_1139 dL_law_1140 dL_law_1141 ?_
  refine j_callV (pc' := 1145) (LM_rule e2) cv_RL_129 ⟨le_b rfl, le_b rfl⟩ (hp_e rfl) rfl rfl (le_b rfl) (rm_w2 ht (le_b rfl) (le_b rfl)) rfl rfl dL_law_1142 (fun _ _ hPq => ?_)
  obtain ⟨rfl, rfl⟩ := hPq
  refine j_ic_eq (tg := 1312) (pc' := 1148) rfl rfl dL_law_1145 (fun _ => ?_) (fun hne => absurd rfl hne)
  exact j_wide (nxt_le ht).1 (nxt_le ht).2 (kk σ2 o5 o6 o7 hI2)
theorem lc_drop : LC l D dA H0 b L xs h0 Po 1150 := by
  intro t i σ o5 o6 o7 ht hv hI kk
  obtain ⟨r, σ1, σ2, e1, e2, hI2⟩ := E_drop (x1 := (xs (i + 1).toNatClampNeg)) hI
  refine j_aload_n (pc' := 1151) rfl rfl dL_law_1150 ?_
  refine j_arg (v := 1) (pc' := 1157) rfl rfl hv.1 rfl dL_law_1151 dL_law_1152 dL_law_1154 dL_law_1155 dL_law_1156 ?_
  refine j_callV (pc' := 1160) (LG_drop e1) cv_RL_130 ⟨le_b rfl, le_b rfl⟩ (hp_e rfl) rfl rfl (le_b rfl) (rm_w ht (le_b rfl) (le_b rfl)) rfl rfl dL_law_1157 (fun _ _ hPq => ?_)
  obtain ⟨rfl, rfl⟩ := hPq
  refine j_wide (k' := 100 + 8 * t + 4) (n' := 5000 + 80 * t + 70) (Nat.add_le_add_left (le_b rfl) _) (Nat.add_le_add_left (le_b rfl) _) ?_
  refine j_aload_n (pc' := 1161) rfl rfl dL_law_1160 ?_
  refine j_arg (v := 1) (pc' := 1167) rfl rfl hv.1 rfl dL_law_1161 dL_law_1162 dL_law_1164 dL_law_1165 dL_law_1166 ?_
  refine j_callV (pc' := 1170) (LM_drop e2) cv_RL_133 ⟨le_b rfl, le_b rfl⟩ (hp_e rfl) rfl rfl (le_b rfl) (rm_w2 ht (le_b rfl) (le_b rfl)) rfl rfl dL_law_1167 (fun _ _ hPq => ?_)
  obtain ⟨rfl, rfl⟩ := hPq
  refine j_ic_eq (tg := 1312) (pc' := 1173) rfl rfl dL_law_1170 (fun _ => ?_) (fun hne => absurd rfl hne)
  exact j_wide (nxt_le ht).1 (nxt_le ht).2 (kk σ2 o5 o6 o7 hI2)
theorem lc_cost : LC l D dA H0 b L xs h0 Po 1175 := by
  intro t i σ o5 o6 o7 ht hv hI kk
  obtain ⟨r, σ1, σ2, e1, e2, hI2⟩ := E_cost (x1 := (xs (i + 1).toNatClampNeg)) (x2 := (xs (i + 2).toNatClampNeg)) (x3 := (xs (i + 3).toNatClampNeg)) hI
  refine j_aload_n (pc' := 1176) rfl rfl dL_law_1175 ?_
  refine j_arg (v := 1) (pc' := 1182) rfl rfl hv.1 rfl dL_law_1176 dL_law_1177 dL_law_1179 dL_law_1180 dL_law_1181 ?_
  refine j_arg (v := 2) (pc' := 1188) rfl rfl hv.2.1 rfl dL_law_1182 dL_law_1183 dL_law_1185 dL_law_1186 dL_law_1187 ?_
  refine j_arg (v := 3) (pc' := 1194) rfl rfl hv.2.2.1 rfl dL_law_1188 dL_law_1189 dL_law_1191 dL_law_1192 dL_law_1193 ?_
  refine j_callV (pc' := 1197) (LG_cost e1) cv_RL_134 ⟨le_b rfl, le_b rfl⟩ (hp_e rfl) rfl rfl (le_b rfl) (rm_w ht (le_b rfl) (le_b rfl)) rfl rfl dL_law_1194 (fun _ _ hPq => ?_)
  obtain ⟨rfl, rfl⟩ := hPq
  refine j_wide (k' := 100 + 8 * t + 4) (n' := 5000 + 80 * t + 70) (Nat.add_le_add_left (le_b rfl) _) (Nat.add_le_add_left (le_b rfl) _) ?_
  refine j_aload_n (pc' := 1198) rfl rfl dL_law_1197 ?_
  refine j_arg (v := 1) (pc' := 1204) rfl rfl hv.1 rfl dL_law_1198 dL_law_1199 dL_law_1201 dL_law_1202 dL_law_1203 ?_
  refine j_arg (v := 2) (pc' := 1210) rfl rfl hv.2.1 rfl dL_law_1204 dL_law_1205 dL_law_1207 dL_law_1208 dL_law_1209 ?_
  refine j_arg (v := 3) (pc' := 1216) rfl rfl hv.2.2.1 rfl dL_law_1210 dL_law_1211 dL_law_1213 dL_law_1214 dL_law_1215 ?_
  refine j_callV (pc' := 1219) (LM_cost e2) cv_RL_138 ⟨le_b rfl, le_b rfl⟩ (hp_e rfl) rfl rfl (le_b rfl) (rm_w2 ht (le_b rfl) (le_b rfl)) rfl rfl dL_law_1216 (fun _ _ hPq => ?_)
  obtain ⟨rfl, rfl⟩ := hPq
  refine j_lcmp (pc' := 1220) rfl dL_law_1219 ?_
  rw [cmp_self]
  refine j_if_eq (tg := 1312) (pc' := 1223) rfl rfl dL_law_1220 (fun _ => ?_) (fun hne => absurd rfl hne)
  exact j_wide (nxt_le ht).1 (nxt_le ht).2 (kk σ2 o5 o6 o7 hI2)
theorem lc_least : LC l D dA H0 b L xs h0 Po 1225 := by
  intro t i σ o5 o6 o7 ht hv hI kk
  obtain ⟨r, σ1, σ2, e1, e2, hI2⟩ := E_least (x1 := (xs (i + 1).toNatClampNeg)) (x2 := (xs (i + 2).toNatClampNeg)) (x3 := (xs (i + 3).toNatClampNeg)) (x4 := (xs (i + 4).toNatClampNeg)) hI
  refine j_aload_n (pc' := 1226) rfl rfl dL_law_1225 ?_
  refine j_arg (v := 1) (pc' := 1232) rfl rfl hv.1 rfl dL_law_1226 dL_law_1227 dL_law_1229 dL_law_1230 dL_law_1231 ?_
  refine j_arg (v := 2) (pc' := 1238) rfl rfl hv.2.1 rfl dL_law_1232 dL_law_1233 dL_law_1235 dL_law_1236 dL_law_1237 ?_
  refine j_arg (v := 3) (pc' := 1244) rfl rfl hv.2.2.1 rfl dL_law_1238 dL_law_1239 dL_law_1241 dL_law_1242 dL_law_1243 ?_
  refine j_arg (v := 4) (pc' := 1250) rfl rfl hv.2.2.2.1 rfl dL_law_1244 dL_law_1245 dL_law_1247 dL_law_1248 dL_law_1249 ?_
  refine j_callV (pc' := 1253) (LG_least e1) cv_RL_139 ⟨le_b rfl, le_b rfl⟩ (hp_e rfl) rfl rfl (le_b rfl) (rm_w ht (le_b rfl) (le_b rfl)) rfl rfl dL_law_1250 (fun _ _ hPq => ?_)
  obtain ⟨rfl, rfl⟩ := hPq
  refine j_wide (k' := 100 + 8 * t + 4) (n' := 5000 + 80 * t + 70) (Nat.add_le_add_left (le_b rfl) _) (Nat.add_le_add_left (le_b rfl) _) ?_
  refine j_aload_n (pc' := 1254) rfl rfl dL_law_1253 ?_
  refine j_arg (v := 1) (pc' := 1260) rfl rfl hv.1 rfl dL_law_1254 dL_law_1255 dL_law_1257 dL_law_1258 dL_law_1259 ?_
  refine j_arg (v := 2) (pc' := 1266) rfl rfl hv.2.1 rfl dL_law_1260 dL_law_1261 dL_law_1263 dL_law_1264 dL_law_1265 ?_
  refine j_arg (v := 3) (pc' := 1272) rfl rfl hv.2.2.1 rfl dL_law_1266 dL_law_1267 dL_law_1269 dL_law_1270 dL_law_1271 ?_
  refine j_arg (v := 4) (pc' := 1278) rfl rfl hv.2.2.2.1 rfl dL_law_1272 dL_law_1273 dL_law_1275 dL_law_1276 dL_law_1277 ?_
  refine j_callV (pc' := 1281) (LM_least e2) cv_RL_143 ⟨le_b rfl, le_b rfl⟩ (hp_e rfl) rfl rfl (le_b rfl) (rm_w2 ht (le_b rfl) (le_b rfl)) rfl rfl dL_law_1278 (fun _ _ hPq => ?_)
  obtain ⟨rfl, rfl⟩ := hPq
  refine j_lcmp (pc' := 1282) rfl dL_law_1281 ?_
  rw [cmp_self]
  refine j_if_eq (tg := 1312) (pc' := 1285) rfl rfl dL_law_1282 (fun _ => ?_) (fun hne => absurd rfl hne)
  exact j_wide (nxt_le ht).1 (nxt_le ht).2 (kk σ2 o5 o6 o7 hI2)
theorem lc_count : LC l D dA H0 b L xs h0 Po 1287 := by
  intro t i σ o5 o6 o7 ht hv hI kk
  obtain ⟨r, σ1, σ2, e1, e2, hI2⟩ := E_count (x1 := (xs (i + 1).toNatClampNeg)) hI
  refine j_aload_n (pc' := 1288) rfl rfl dL_law_1287 ?_
  refine j_arg (v := 1) (pc' := 1294) rfl rfl hv.1 rfl dL_law_1288 dL_law_1289 dL_law_1291 dL_law_1292 dL_law_1293 ?_
  refine j_callV (pc' := 1297) (LG_count e1) cv_RL_144 ⟨le_b rfl, le_b rfl⟩ (hp_e rfl) rfl rfl (le_b rfl) (rm_w ht (le_b rfl) (le_b rfl)) rfl rfl dL_law_1294 (fun _ _ hPq => ?_)
  obtain ⟨rfl, rfl⟩ := hPq
  refine j_wide (k' := 100 + 8 * t + 4) (n' := 5000 + 80 * t + 70) (Nat.add_le_add_left (le_b rfl) _) (Nat.add_le_add_left (le_b rfl) _) ?_
  refine j_aload_n (pc' := 1298) rfl rfl dL_law_1297 ?_
  refine j_arg (v := 1) (pc' := 1304) rfl rfl hv.1 rfl dL_law_1298 dL_law_1299 dL_law_1301 dL_law_1302 dL_law_1303 ?_
  refine j_callV (pc' := 1307) (LM_count e2) cv_RL_147 ⟨le_b rfl, le_b rfl⟩ (hp_e rfl) rfl rfl (le_b rfl) (rm_w2 ht (le_b rfl) (le_b rfl)) rfl rfl dL_law_1304 (fun _ _ hPq => ?_)
  obtain ⟨rfl, rfl⟩ := hPq
  refine j_ic_eq (tg := 1312) (pc' := 1310) rfl rfl dL_law_1307 (fun _ => ?_) (fun hne => absurd rfl hne)
  exact j_wide (nxt_le ht).1 (nxt_le ht).2 (kk σ2 o5 o6 o7 hI2)
end LAWCASES

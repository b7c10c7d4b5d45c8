theorem gm_597 : Cond.methodLink RL 7 yL_cell ∈ GT := gt_mem 597 (by decide +kernel) (by decide +kernel)
theorem gm_599 : Cond.code yL_cell cL_cell 2 (some .int) ∈ GT := gt_mem 599 (by decide +kernel) (by decide +kernel)
theorem gm_26 : Cond.initialized RL ∈ GT := gt_mem 26 (by decide +kernel) (by decide +kernel)
theorem gm_598 : Cond.static yL_cell ∈ GT := gt_mem 598 (by decide +kernel) (by decide +kernel)
theorem lk_L_7 : LKS RL 7 yL_cell cL_cell 2 (some .int) 2 := ⟨Or.inl gm_597, gm_598, gm_26, gm_599, by decide +kernel⟩
theorem gm_600 : Cond.methodLink RL 13 yJ_Math_floorMod ∈ GT := gt_mem 600 (by decide +kernel) (by decide +kernel)
theorem gm_602 : Cond.code yJ_Math_floorMod cJ_Math_floorMod 3 (some .int) ∈ GT := gt_mem 602 (by decide +kernel) (by decide +kernel)
theorem gm_601 : Cond.static yJ_Math_floorMod ∈ GT := gt_mem 601 (by decide +kernel) (by decide +kernel)
theorem lk_L_13 : LKS RL 13 yJ_Math_floorMod cJ_Math_floorMod 3 (some .int) 2 := ⟨Or.inl gm_600, gm_601, gm_41, gm_602, by decide +kernel⟩
theorem gm_1048 : Cond.methodLink RL 19 yX6_drop ∈ GT := gt_mem 1048 (by decide +kernel) (by decide +kernel)
theorem gm_1051 : Cond.code yX6_drop cX6_drop 3 (some .int) ∈ GT := gt_mem 1051 (by decide +kernel) (by decide +kernel)
theorem gm_1049 : Cond.instanceMethod yX6_drop ∈ GT := gt_mem 1049 (by decide +kernel) (by decide +kernel)
theorem gm_1050 : Cond.selects RX6 yX6_drop yX6_drop ∈ GT := gt_mem 1050 (by decide +kernel) (by decide +kernel)
theorem lk_L_19 : LKV RL 19 RX6 yX6_drop cX6_drop 3 (some .int) 1 := ⟨Or.inl gm_1048, gm_1049, gm_1050, gm_27, gm_1051, by decide +kernel⟩
theorem zk_101 : zk shX shX [0, 1, 2, 3, 4, 5, 6, 7, 8, 9, 10, 11, 12, 13, 14, 15, 16, 17, 18, 19, 20, 21, 22, 23, 24, 25, 26, 27, 28, 29, 30, 31, 32, 33, 34, 35, 36, 37, 38, 39, 40, 41, 42, 43, 44, 45, 46, 47, 48, 49, 50, 51, 52, 53, 54, 55, 56, 57, 58, 59, 60, 61, 62, 63, 64, 65, 66, 67, 68, 69, 70, 71, 72, 73, 74, 75, 76, 77, 78, 79, 80, 81, 82, 83, 84, 85, 86, 87, 88, 89, 90, 91, 92, 93, 94, 95, 96, 97, 98, 99, 100] = true := by decide +kernel
theorem zs_101 : zs shX [0, 1, 2, 3, 4, 5, 6, 7, 8, 9, 10, 11, 12, 13, 14, 15, 16, 17, 18, 19, 20, 21, 22, 23, 24, 25, 26, 27, 28, 29, 30, 31, 32, 33, 34, 35, 36, 37, 38, 39, 40, 41, 42, 43, 44, 45, 46, 47, 48, 49, 50, 51, 52, 53, 54, 55, 56, 57, 58, 59, 60, 61, 62, 63, 64, 65, 66, 67, 68, 69, 70, 71, 72, 73, 74, 75, 76, 77, 78, 79, 80, 81, 82, 83, 84, 85, 86, 87, 88, 89, 90, 91, 92, 93, 94, 95, 96, 97, 98, 99, 100] = true := by decide +kernel
abbrev zl_101 : List Nat := [0, 1, 2, 3, 4, 5, 6, 7, 8, 9, 10, 11, 12, 13, 14, 15, 16, 17, 18, 19, 20, 21, 22, 23, 24, 25, 26, 27, 28, 29, 30, 31, 32, 33, 34, 35, 36, 37, 38, 39, 40, 41, 42, 43, 44, 45, 46, 47, 48, 49, 50, 51, 52, 53, 54, 55, 56, 57, 58, 59, 60, 61, 62, 63, 64, 65, 66, 67, 68, 69, 70, 71, 72, 73, 74, 75, 76, 77, 78, 79, 80, 81, 82, 83, 84, 85, 86, 87, 88, 89, 90, 91, 92, 93, 94, 95, 96, 97, 98, 99, 100]
theorem gm_1077 : Cond.methodLink RL 27 yX6_knock ∈ GT := gt_mem 1077 (by decide +kernel) (by decide +kernel)
theorem gm_1080 : Cond.code yX6_knock cX6_knock 3 (some .int) ∈ GT := gt_mem 1080 (by decide +kernel) (by decide +kernel)
theorem gm_1078 : Cond.instanceMethod yX6_knock ∈ GT := gt_mem 1078 (by decide +kernel) (by decide +kernel)
theorem gm_1079 : Cond.selects RX6 yX6_knock yX6_knock ∈ GT := gt_mem 1079 (by decide +kernel) (by decide +kernel)
theorem lk_L_27 : LKV RL 27 RX6 yX6_knock cX6_knock 3 (some .int) 1 := ⟨Or.inl gm_1077, gm_1078, gm_1079, gm_27, gm_1080, by decide +kernel⟩
theorem gm_1095 : Cond.methodLink RL 30 yX6_set ∈ GT := gt_mem 1095 (by decide +kernel) (by decide +kernel)
theorem gm_1098 : Cond.code yX6_set cX6_set 4 (some .int) ∈ GT := gt_mem 1098 (by decide +kernel) (by decide +kernel)
theorem gm_1096 : Cond.instanceMethod yX6_set ∈ GT := gt_mem 1096 (by decide +kernel) (by decide +kernel)
theorem gm_1097 : Cond.selects RX6 yX6_set yX6_set ∈ GT := gt_mem 1097 (by decide +kernel) (by decide +kernel)
theorem lk_L_30 : LKV RL 30 RX6 yX6_set cX6_set 4 (some .int) 2 := ⟨Or.inl gm_1095, gm_1096, gm_1097, gm_27, gm_1098, by decide +kernel⟩
theorem gm_974 : Cond.methodLink RL 36 yX6_match ∈ GT := gt_mem 974 (by decide +kernel) (by decide +kernel)
theorem gm_977 : Cond.code yX6_match cX6_match 2 (some .int) ∈ GT := gt_mem 977 (by decide +kernel) (by decide +kernel)
theorem gm_975 : Cond.instanceMethod yX6_match ∈ GT := gt_mem 975 (by decide +kernel) (by decide +kernel)
theorem gm_976 : Cond.selects RX6 yX6_match yX6_match ∈ GT := gt_mem 976 (by decide +kernel) (by decide +kernel)
theorem lk_L_36 : LKV RL 36 RX6 yX6_match cX6_match 2 (some .int) 1 := ⟨Or.inl gm_974, gm_975, gm_976, gm_27, gm_977, by decide +kernel⟩
theorem gm_997 : Cond.methodLink RL 39 yX6_player ∈ GT := gt_mem 997 (by decide +kernel) (by decide +kernel)
theorem gm_1000 : Cond.code yX6_player cX6_player 5 (some .int) ∈ GT := gt_mem 1000 (by decide +kernel) (by decide +kernel)
theorem gm_998 : Cond.instanceMethod yX6_player ∈ GT := gt_mem 998 (by decide +kernel) (by decide +kernel)
theorem gm_999 : Cond.selects RX6 yX6_player yX6_player ∈ GT := gt_mem 999 (by decide +kernel) (by decide +kernel)
theorem lk_L_39 : LKV RL 39 RX6 yX6_player cX6_player 5 (some .int) 2 := ⟨Or.inl gm_997, gm_998, gm_999, gm_27, gm_1000, by decide +kernel⟩
theorem gm_1024 : Cond.methodLink RL 42 yX6_card ∈ GT := gt_mem 1024 (by decide +kernel) (by decide +kernel)
theorem gm_1027 : Cond.code yX6_card cX6_card 6 (some .int) ∈ GT := gt_mem 1027 (by decide +kernel) (by decide +kernel)
theorem gm_1025 : Cond.instanceMethod yX6_card ∈ GT := gt_mem 1025 (by decide +kernel) (by decide +kernel)
theorem gm_1026 : Cond.selects RX6 yX6_card yX6_card ∈ GT := gt_mem 1026 (by decide +kernel) (by decide +kernel)
theorem lk_L_42 : LKV RL 42 RX6 yX6_card cX6_card 6 (some .int) 2 := ⟨Or.inl gm_1024, gm_1025, gm_1026, gm_27, gm_1027, by decide +kernel⟩
theorem gm_1114 : Cond.methodLink RL 45 yX6_where ∈ GT := gt_mem 1114 (by decide +kernel) (by decide +kernel)
theorem gm_1117 : Cond.code yX6_where cX6_where 2 (some .int) ∈ GT := gt_mem 1117 (by decide +kernel) (by decide +kernel)
theorem gm_1115 : Cond.instanceMethod yX6_where ∈ GT := gt_mem 1115 (by decide +kernel) (by decide +kernel)
theorem gm_1116 : Cond.selects RX6 yX6_where yX6_where ∈ GT := gt_mem 1116 (by decide +kernel) (by decide +kernel)
theorem lk_L_45 : LKV RL 45 RX6 yX6_where cX6_where 2 (some .int) 1 := ⟨Or.inl gm_1114, gm_1115, gm_1116, gm_27, gm_1117, by decide +kernel⟩
theorem gm_1133 : Cond.methodLink RL 48 yX6_meldOf ∈ GT := gt_mem 1133 (by decide +kernel) (by decide +kernel)
theorem gm_1136 : Cond.code yX6_meldOf cX6_meldOf 3 (some .int) ∈ GT := gt_mem 1136 (by decide +kernel) (by decide +kernel)
theorem gm_1134 : Cond.instanceMethod yX6_meldOf ∈ GT := gt_mem 1134 (by decide +kernel) (by decide +kernel)
theorem gm_1135 : Cond.selects RX6 yX6_meldOf yX6_meldOf ∈ GT := gt_mem 1135 (by decide +kernel) (by decide +kernel)
theorem lk_L_48 : LKV RL 48 RX6 yX6_meldOf cX6_meldOf 3 (some .int) 2 := ⟨Or.inl gm_1133, gm_1134, gm_1135, gm_27, gm_1136, by decide +kernel⟩
theorem gm_1153 : Cond.methodLink RL 51 yX6_meld ∈ GT := gt_mem 1153 (by decide +kernel) (by decide +kernel)
theorem gm_1156 : Cond.code yX6_meld cX6_meld 7 (some .int) ∈ GT := gt_mem 1156 (by decide +kernel) (by decide +kernel)
theorem gm_1154 : Cond.instanceMethod yX6_meld ∈ GT := gt_mem 1154 (by decide +kernel) (by decide +kernel)
theorem gm_1155 : Cond.selects RX6 yX6_meld yX6_meld ∈ GT := gt_mem 1155 (by decide +kernel) (by decide +kernel)
theorem lk_L_51 : LKV RL 51 RX6 yX6_meld cX6_meld 7 (some .int) 3 := ⟨Or.inl gm_1153, gm_1154, gm_1155, gm_27, gm_1156, by decide +kernel⟩
theorem gm_1165 : Cond.methodLink RL 55 yX6_restWithout ∈ GT := gt_mem 1165 (by decide +kernel) (by decide +kernel)
theorem gm_1168 : Cond.code yX6_restWithout cX6_restWithout 2 (some .int) ∈ GT := gt_mem 1168 (by decide +kernel) (by decide +kernel)
theorem gm_1166 : Cond.instanceMethod yX6_restWithout ∈ GT := gt_mem 1166 (by decide +kernel) (by decide +kernel)
theorem gm_1167 : Cond.selects RX6 yX6_restWithout yX6_restWithout ∈ GT := gt_mem 1167 (by decide +kernel) (by decide +kernel)
theorem lk_L_55 : LKV RL 55 RX6 yX6_restWithout cX6_restWithout 2 (some .int) 1 := ⟨Or.inl gm_1165, gm_1166, gm_1167, gm_27, gm_1168, by decide +kernel⟩
theorem gm_1144 : Cond.methodLink RL 58 yX6_kind ∈ GT := gt_mem 1144 (by decide +kernel) (by decide +kernel)
theorem gm_1147 : Cond.code yX6_kind cX6_kind 3 (some .int) ∈ GT := gt_mem 1147 (by decide +kernel) (by decide +kernel)
theorem gm_1145 : Cond.instanceMethod yX6_kind ∈ GT := gt_mem 1145 (by decide +kernel) (by decide +kernel)
theorem gm_1146 : Cond.selects RX6 yX6_kind yX6_kind ∈ GT := gt_mem 1146 (by decide +kernel) (by decide +kernel)
theorem lk_L_58 : LKV RL 58 RX6 yX6_kind cX6_kind 3 (some .int) 1 := ⟨Or.inl gm_1144, gm_1145, gm_1146, gm_27, gm_1147, by decide +kernel⟩
theorem gm_969 : Jvm.Cond.constant RL 103 (2147483647 : Int32) ∈ GT := gt_mem 969 (by decide +kernel) (by decide +kernel)
theorem gm_970 : Cond.methodLink RL 104 yL_match ∈ GT := gt_mem 970 (by decide +kernel) (by decide +kernel)
theorem gm_971 : Cond.static yL_match ∈ GT := gt_mem 971 (by decide +kernel) (by decide +kernel)
theorem gm_972 : Cond.codeWith yL_match cL_match 3 (some .int) [(0, 5, 6, 34)] ∈ GT := gt_mem 972 (by decide +kernel) (by decide +kernel)
theorem gm_994 : Cond.methodLink RL 107 yL_player ∈ GT := gt_mem 994 (by decide +kernel) (by decide +kernel)
theorem gm_995 : Cond.static yL_player ∈ GT := gt_mem 995 (by decide +kernel) (by decide +kernel)
theorem gm_996 : Cond.codeWith yL_player cL_player 4 (some .int) [(0, 6, 7, 34)] ∈ GT := gt_mem 996 (by decide +kernel) (by decide +kernel)
theorem gm_1021 : Cond.methodLink RL 110 yL_card ∈ GT := gt_mem 1021 (by decide +kernel) (by decide +kernel)
theorem gm_1022 : Cond.static yL_card ∈ GT := gt_mem 1022 (by decide +kernel) (by decide +kernel)
theorem gm_1023 : Cond.codeWith yL_card cL_card 4 (some .int) [(0, 6, 7, 34)] ∈ GT := gt_mem 1023 (by decide +kernel) (by decide +kernel)
theorem gm_1028 : Cond.methodLink RL 112 yX6_bestDrop ∈ GT := gt_mem 1028 (by decide +kernel) (by decide +kernel)
theorem gm_1031 : Cond.code yX6_bestDrop cX6_bestDrop 5 (some .int) ∈ GT := gt_mem 1031 (by decide +kernel) (by decide +kernel)
theorem gm_1029 : Cond.instanceMethod yX6_bestDrop ∈ GT := gt_mem 1029 (by decide +kernel) (by decide +kernel)
theorem gm_1030 : Cond.selects RX6 yX6_bestDrop yX6_bestDrop ∈ GT := gt_mem 1030 (by decide +kernel) (by decide +kernel)
theorem lk_L_112 : LKV RL 112 RX6 yX6_bestDrop cX6_bestDrop 5 (some .int) 0 := ⟨Or.inl gm_1028, gm_1029, gm_1030, gm_27, gm_1031, by decide +kernel⟩
theorem gm_594 : Cond.methodLink RL 72 yL_of ∈ GT := gt_mem 594 (by decide +kernel) (by decide +kernel)
theorem gm_596 : Cond.code yL_of cL_of 4 (some .int) ∈ GT := gt_mem 596 (by decide +kernel) (by decide +kernel)
theorem gm_595 : Cond.static yL_of ∈ GT := gt_mem 595 (by decide +kernel) (by decide +kernel)
theorem lk_L_72 : LKS RL 72 yL_of cL_of 4 (some .int) 4 := ⟨Or.inl gm_594, gm_595, gm_26, gm_596, by decide +kernel⟩
theorem gm_1038 : Cond.methodLink RL 115 yX6_draw ∈ GT := gt_mem 1038 (by decide +kernel) (by decide +kernel)
theorem gm_1041 : Cond.code yX6_draw cX6_draw 3 (some .int) ∈ GT := gt_mem 1041 (by decide +kernel) (by decide +kernel)
theorem gm_1039 : Cond.instanceMethod yX6_draw ∈ GT := gt_mem 1039 (by decide +kernel) (by decide +kernel)
theorem gm_1040 : Cond.selects RX6 yX6_draw yX6_draw ∈ GT := gt_mem 1040 (by decide +kernel) (by decide +kernel)
theorem lk_L_115 : LKV RL 115 RX6 yX6_draw cX6_draw 3 (some .int) 1 := ⟨Or.inl gm_1038, gm_1039, gm_1040, gm_27, gm_1041, by decide +kernel⟩
theorem gm_1044 : Cond.methodLink RL 119 yL_drop ∈ GT := gt_mem 1044 (by decide +kernel) (by decide +kernel)
theorem gm_1045 : Cond.static yL_drop ∈ GT := gt_mem 1045 (by decide +kernel) (by decide +kernel)
theorem gm_1046 : Cond.codeWith yL_drop cL_drop 3 (some .int) [(0, 5, 6, 25)] ∈ GT := gt_mem 1046 (by decide +kernel) (by decide +kernel)
theorem gm_1074 : Cond.methodLink RL 121 yL_knock ∈ GT := gt_mem 1074 (by decide +kernel) (by decide +kernel)
theorem gm_1075 : Cond.static yL_knock ∈ GT := gt_mem 1075 (by decide +kernel) (by decide +kernel)
theorem gm_1076 : Cond.codeWith yL_knock cL_knock 3 (some .int) [(0, 5, 6, 25)] ∈ GT := gt_mem 1076 (by decide +kernel) (by decide +kernel)
theorem gm_1086 : Cond.methodLink RL 123 yX6_deal ∈ GT := gt_mem 1086 (by decide +kernel) (by decide +kernel)
theorem gm_1089 : Cond.code yX6_deal cX6_deal 2 (some .int) ∈ GT := gt_mem 1089 (by decide +kernel) (by decide +kernel)
theorem gm_1087 : Cond.instanceMethod yX6_deal ∈ GT := gt_mem 1087 (by decide +kernel) (by decide +kernel)
theorem gm_1088 : Cond.selects RX6 yX6_deal yX6_deal ∈ GT := gt_mem 1088 (by decide +kernel) (by decide +kernel)
theorem lk_L_123 : LKV RL 123 RX6 yX6_deal cX6_deal 2 (some .int) 0 := ⟨Or.inl gm_1086, gm_1087, gm_1088, gm_27, gm_1089, by decide +kernel⟩
theorem gm_1092 : Cond.methodLink RL 126 yL_set ∈ GT := gt_mem 1092 (by decide +kernel) (by decide +kernel)
theorem gm_1093 : Cond.static yL_set ∈ GT := gt_mem 1093 (by decide +kernel) (by decide +kernel)
theorem gm_1094 : Cond.codeWith yL_set cL_set 4 (some .int) [(0, 6, 7, 34)] ∈ GT := gt_mem 1094 (by decide +kernel) (by decide +kernel)
theorem gm_1129 : Cond.methodLink RL 129 Lib.Math.min.name ∈ GT := gt_mem 1129 (by decide +kernel) (by decide +kernel)
theorem zx_isLaid : zex shX shIg = true := by decide +kernel
theorem zk_102 : zk shX shIg [0, 1, 2, 3, 4, 5, 6, 7, 8, 9, 10, 11, 12, 13, 14, 15, 16, 17, 18, 19, 20, 21, 22, 23, 24, 25, 26, 27, 28, 29, 30, 31, 32, 33, 34, 35, 36, 37, 38, 39, 40, 41, 42, 43, 44, 45, 46, 47, 48, 49, 50, 51, 52, 53, 54, 55, 56, 57, 58, 59, 60, 61, 62, 63, 64, 65, 66, 67, 68, 69, 70, 71, 72, 73, 74, 75, 76, 77, 78, 79, 80, 81, 82, 83, 84, 85, 86, 87, 88, 89, 90, 91, 92, 93, 94, 95, 96, 97, 98, 99, 100] = true := by decide +kernel
theorem zs_102 : zs shIg [0, 1, 2, 3, 4, 5, 6, 7, 8, 9, 10, 11, 12, 13, 14, 15, 16, 17, 18, 19, 20, 21, 22, 23, 24, 25, 26, 27, 28, 29, 30, 31, 32, 33, 34, 35, 36, 37, 38, 39, 40, 41, 42, 43, 44, 45, 46, 47, 48, 49, 50, 51, 52, 53, 54, 55, 56, 57, 58, 59, 60, 61, 62, 63, 64, 65, 66, 67, 68, 69, 70, 71, 72, 73, 74, 75, 76, 77, 78, 79, 80, 81, 82, 83, 84, 85, 86, 87, 88, 89, 90, 91, 92, 93, 94, 95, 96, 97, 98, 99, 100] = true := by decide +kernel
abbrev zl_102 : List Nat := [0, 1, 2, 3, 4, 5, 6, 7, 8, 9, 10, 11, 12, 13, 14, 15, 16, 17, 18, 19, 20, 21, 22, 23, 24, 25, 26, 27, 28, 29, 30, 31, 32, 33, 34, 35, 36, 37, 38, 39, 40, 41, 42, 43, 44, 45, 46, 47, 48, 49, 50, 51, 52, 53, 54, 55, 56, 57, 58, 59, 60, 61, 62, 63, 64, 65, 66, 67, 68, 69, 70, 71, 72, 73, 74, 75, 76, 77, 78, 79, 80, 81, 82, 83, 84, 85, 86, 87, 88, 89, 90, 91, 92, 93, 94, 95, 96, 97, 98, 99, 100]
theorem zk_103 : zcs shIg shI [(200, 0), (200, 1)] = true := by decide +kernel
theorem zk_104 : zk shX shI [0, 1, 2, 3, 4, 5, 6, 7, 8, 9, 10, 11, 12, 13, 14, 15, 16, 17, 18, 19, 20, 21, 22, 23, 24, 25, 26, 27, 28, 29, 30, 31, 32, 33, 34, 35, 36, 37, 38, 39, 40, 41, 42, 43, 44, 45, 46, 47, 48, 49, 50, 51, 52, 53, 54, 55, 56, 57, 58, 59, 60, 61, 62, 63, 64, 65, 66, 67, 68, 69, 70, 71, 72, 73, 74, 75, 76, 77, 78, 79, 80, 81, 82, 83, 84, 85, 86, 87, 88, 89, 90, 91, 92, 93, 94, 95, 96, 97, 98, 99, 100] = true := by decide +kernel
theorem zs_104 : zs shI [0, 1, 2, 3, 4, 5, 6, 7, 8, 9, 10, 11, 12, 13, 14, 15, 16, 17, 18, 19, 20, 21, 22, 23, 24, 25, 26, 27, 28, 29, 30, 31, 32, 33, 34, 35, 36, 37, 38, 39, 40, 41, 42, 43, 44, 45, 46, 47, 48, 49, 50, 51, 52, 53, 54, 55, 56, 57, 58, 59, 60, 61, 62, 63, 64, 65, 66, 67, 68, 69, 70, 71, 72, 73, 74, 75, 76, 77, 78, 79, 80, 81, 82, 83, 84, 85, 86, 87, 88, 89, 90, 91, 92, 93, 94, 95, 96, 97, 98, 99, 100] = true := by decide +kernel
abbrev zl_104 : List Nat := [0, 1, 2, 3, 4, 5, 6, 7, 8, 9, 10, 11, 12, 13, 14, 15, 16, 17, 18, 19, 20, 21, 22, 23, 24, 25, 26, 27, 28, 29, 30, 31, 32, 33, 34, 35, 36, 37, 38, 39, 40, 41, 42, 43, 44, 45, 46, 47, 48, 49, 50, 51, 52, 53, 54, 55, 56, 57, 58, 59, 60, 61, 62, 63, 64, 65, 66, 67, 68, 69, 70, 71, 72, 73, 74, 75, 76, 77, 78, 79, 80, 81, 82, 83, 84, 85, 86, 87, 88, 89, 90, 91, 92, 93, 94, 95, 96, 97, 98, 99, 100]
theorem gm_1111 : Cond.methodLink RL 132 yL_where ∈ GT := gt_mem 1111 (by decide +kernel) (by decide +kernel)
theorem gm_1112 : Cond.static yL_where ∈ GT := gt_mem 1112 (by decide +kernel) (by decide +kernel)
theorem gm_1113 : Cond.codeWith yL_where cL_where 3 (some .int) [(0, 5, 6, 34)] ∈ GT := gt_mem 1113 (by decide +kernel) (by decide +kernel)
theorem gm_1126 : Cond.methodLink RL 134 yL_points ∈ GT := gt_mem 1126 (by decide +kernel) (by decide +kernel)
theorem gm_1128 : Cond.code yL_points cL_points 1 (some .int) ∈ GT := gt_mem 1128 (by decide +kernel) (by decide +kernel)
theorem gm_1127 : Cond.static yL_points ∈ GT := gt_mem 1127 (by decide +kernel) (by decide +kernel)
theorem lk_L_134 : LKS RL 134 yL_points cL_points 1 (some .int) 1 := ⟨Or.inl gm_1126, gm_1127, gm_26, gm_1128, by decide +kernel⟩
theorem zk_105 : zk shN shI [] = true := by decide +kernel
theorem zs_105 : zs shI [] = true := by decide +kernel
abbrev zl_105 : List Nat := []
theorem gm_1130 : Cond.methodLink RL 137 yL_meldOf ∈ GT := gt_mem 1130 (by decide +kernel) (by decide +kernel)
theorem gm_1131 : Cond.static yL_meldOf ∈ GT := gt_mem 1131 (by decide +kernel) (by decide +kernel)
theorem gm_1132 : Cond.codeWith yL_meldOf cL_meldOf 4 (some .int) [(0, 6, 7, 34), (0, 6, 12, 25)] ∈ GT := gt_mem 1132 (by decide +kernel) (by decide +kernel)
theorem zp_shI : zpr shX shI = true := by decide +kernel
theorem gm_1141 : Cond.methodLink RL 139 yL_kind ∈ GT := gt_mem 1141 (by decide +kernel) (by decide +kernel)
theorem gm_1142 : Cond.static yL_kind ∈ GT := gt_mem 1142 (by decide +kernel) (by decide +kernel)
theorem gm_1143 : Cond.codeWith yL_kind cL_kind 4 (some .int) [(0, 5, 6, 34)] ∈ GT := gt_mem 1143 (by decide +kernel) (by decide +kernel)
theorem gm_1150 : Cond.methodLink RL 142 yL_meld ∈ GT := gt_mem 1150 (by decide +kernel) (by decide +kernel)
theorem gm_1151 : Cond.static yL_meld ∈ GT := gt_mem 1151 (by decide +kernel) (by decide +kernel)
theorem gm_1152 : Cond.codeWith yL_meld cL_meld 5 (some .int) [(0, 7, 8, 34)] ∈ GT := gt_mem 1152 (by decide +kernel) (by decide +kernel)
theorem zx_isSound : zex shX shSg = true := by decide +kernel
theorem gm_1102 : Cond.methodLink RL 145 yX6_gap ∈ GT := gt_mem 1102 (by decide +kernel) (by decide +kernel)
theorem gm_1105 : Cond.code yX6_gap cX6_gap 4 (some .int) ∈ GT := gt_mem 1105 (by decide +kernel) (by decide +kernel)
theorem gm_1103 : Cond.instanceMethod yX6_gap ∈ GT := gt_mem 1103 (by decide +kernel) (by decide +kernel)
theorem gm_1104 : Cond.selects RX6 yX6_gap yX6_gap ∈ GT := gt_mem 1104 (by decide +kernel) (by decide +kernel)
theorem lk_L_145 : LKV RL 145 RX6 yX6_gap cX6_gap 4 (some .int) 0 := ⟨Or.inl gm_1102, gm_1103, gm_1104, gm_27, gm_1105, by decide +kernel⟩
theorem zk_106 : zk shX shSg [0, 1, 2, 3, 4, 5, 6, 7, 8, 9, 10, 11, 12, 13, 14, 15, 16, 17, 18, 19, 20, 21, 22, 23, 24, 25, 26, 27, 28, 29, 30, 31, 32, 33, 34, 35, 36, 37, 38, 39, 40, 41, 42, 43, 44, 45, 46, 47, 48, 49, 50, 51, 52, 53, 54, 55, 56, 57, 58, 59, 60, 61, 62, 63, 64, 65, 66, 67, 68, 69, 70, 71, 72, 73, 74, 75, 76, 77, 78, 79, 80, 81, 82, 83, 84, 85, 86, 87, 88, 89, 90, 91, 92, 93, 94, 95, 96, 97, 98, 99, 100] = true := by decide +kernel
theorem zs_106 : zs shSg [0, 1, 2, 3, 4, 5, 6, 7, 8, 9, 10, 11, 12, 13, 14, 15, 16, 17, 18, 19, 20, 21, 22, 23, 24, 25, 26, 27, 28, 29, 30, 31, 32, 33, 34, 35, 36, 37, 38, 39, 40, 41, 42, 43, 44, 45, 46, 47, 48, 49, 50, 51, 52, 53, 54, 55, 56, 57, 58, 59, 60, 61, 62, 63, 64, 65, 66, 67, 68, 69, 70, 71, 72, 73, 74, 75, 76, 77, 78, 79, 80, 81, 82, 83, 84, 85, 86, 87, 88, 89, 90, 91, 92, 93, 94, 95, 96, 97, 98, 99, 100] = true := by decide +kernel
abbrev zl_106 : List Nat := [0, 1, 2, 3, 4, 5, 6, 7, 8, 9, 10, 11, 12, 13, 14, 15, 16, 17, 18, 19, 20, 21, 22, 23, 24, 25, 26, 27, 28, 29, 30, 31, 32, 33, 34, 35, 36, 37, 38, 39, 40, 41, 42, 43, 44, 45, 46, 47, 48, 49, 50, 51, 52, 53, 54, 55, 56, 57, 58, 59, 60, 61, 62, 63, 64, 65, 66, 67, 68, 69, 70, 71, 72, 73, 74, 75, 76, 77, 78, 79, 80, 81, 82, 83, 84, 85, 86, 87, 88, 89, 90, 91, 92, 93, 94, 95, 96, 97, 98, 99, 100]
theorem zk_107 : zcs shSg shS [(200, 0)] = true := by decide +kernel
theorem zk_108 : zk shX shS [0, 1, 2, 3, 4, 5, 6, 7, 8, 9, 10, 11, 12, 13, 14, 15, 16, 17, 18, 19, 20, 21, 22, 23, 24, 25, 26, 27, 28, 29, 30, 31, 32, 33, 34, 35, 36, 37, 38, 39, 40, 41, 42, 43, 44, 45, 46, 47, 48, 49, 50, 51, 52, 53, 54, 55, 56, 57, 58, 59, 60, 61, 62, 63, 64, 65, 66, 67, 68, 69, 70, 71, 72, 73, 74, 75, 76, 77, 78, 79, 80, 81, 82, 83, 84, 85, 86, 87, 88, 89, 90, 91, 92, 93, 94, 95, 96, 97, 98, 99, 100] = true := by decide +kernel
theorem zs_108 : zs shS [0, 1, 2, 3, 4, 5, 6, 7, 8, 9, 10, 11, 12, 13, 14, 15, 16, 17, 18, 19, 20, 21, 22, 23, 24, 25, 26, 27, 28, 29, 30, 31, 32, 33, 34, 35, 36, 37, 38, 39, 40, 41, 42, 43, 44, 45, 46, 47, 48, 49, 50, 51, 52, 53, 54, 55, 56, 57, 58, 59, 60, 61, 62, 63, 64, 65, 66, 67, 68, 69, 70, 71, 72, 73, 74, 75, 76, 77, 78, 79, 80, 81, 82, 83, 84, 85, 86, 87, 88, 89, 90, 91, 92, 93, 94, 95, 96, 97, 98, 99, 100] = true := by decide +kernel
abbrev zl_108 : List Nat := [0, 1, 2, 3, 4, 5, 6, 7, 8, 9, 10, 11, 12, 13, 14, 15, 16, 17, 18, 19, 20, 21, 22, 23, 24, 25, 26, 27, 28, 29, 30, 31, 32, 33, 34, 35, 36, 37, 38, 39, 40, 41, 42, 43, 44, 45, 46, 47, 48, 49, 50, 51, 52, 53, 54, 55, 56, 57, 58, 59, 60, 61, 62, 63, 64, 65, 66, 67, 68, 69, 70, 71, 72, 73, 74, 75, 76, 77, 78, 79, 80, 81, 82, 83, 84, 85, 86, 87, 88, 89, 90, 91, 92, 93, 94, 95, 96, 97, 98, 99, 100]
theorem zp_shS : zpr shX shS = true := by decide +kernel
theorem gm_1123 : Cond.methodLink RL 148 yL_isLaid ∈ GT := gt_mem 1123 (by decide +kernel) (by decide +kernel)
theorem gm_1125 : Cond.code yL_isLaid cL_isLaid 13 (some .boolean) ∈ GT := gt_mem 1125 (by decide +kernel) (by decide +kernel)
theorem gm_1124 : Cond.static yL_isLaid ∈ GT := gt_mem 1124 (by decide +kernel) (by decide +kernel)
theorem lk_L_148 : LKS RL 148 yL_isLaid cL_isLaid 13 (some .boolean) 2 := ⟨Or.inl gm_1123, gm_1124, gm_26, gm_1125, by decide +kernel⟩
theorem gm_1162 : Cond.methodLink RL 152 yL_restWithout ∈ GT := gt_mem 1162 (by decide +kernel) (by decide +kernel)
theorem gm_1163 : Cond.static yL_restWithout ∈ GT := gt_mem 1163 (by decide +kernel) (by decide +kernel)
theorem gm_1164 : Cond.codeWith yL_restWithout cL_restWithout 3 (some .int) [(0, 5, 6, 25)] ∈ GT := gt_mem 1164 (by decide +kernel) (by decide +kernel)
theorem gm_1169 : Cond.methodLink RL 154 yX6_needed ∈ GT := gt_mem 1169 (by decide +kernel) (by decide +kernel)
theorem gm_1172 : Cond.code yX6_needed cX6_needed 1 (some .int) ∈ GT := gt_mem 1172 (by decide +kernel) (by decide +kernel)
theorem gm_1170 : Cond.instanceMethod yX6_needed ∈ GT := gt_mem 1170 (by decide +kernel) (by decide +kernel)
theorem gm_1171 : Cond.selects RX6 yX6_needed yX6_needed ∈ GT := gt_mem 1171 (by decide +kernel) (by decide +kernel)
theorem lk_L_154 : LKV RL 154 RX6 yX6_needed cX6_needed 1 (some .int) 0 := ⟨Or.inl gm_1169, gm_1170, gm_1171, gm_27, gm_1172, by decide +kernel⟩
theorem gm_1186 : Cond.methodLink RL 157 yX6_undo ∈ GT := gt_mem 1186 (by decide +kernel) (by decide +kernel)
theorem gm_1189 : Cond.code yX6_undo cX6_undo 1 (some .int) ∈ GT := gt_mem 1189 (by decide +kernel) (by decide +kernel)
theorem gm_1187 : Cond.instanceMethod yX6_undo ∈ GT := gt_mem 1187 (by decide +kernel) (by decide +kernel)
theorem gm_1188 : Cond.selects RX6 yX6_undo yX6_undo ∈ GT := gt_mem 1188 (by decide +kernel) (by decide +kernel)
theorem lk_L_157 : LKV RL 157 RX6 yX6_undo cX6_undo 1 (some .int) 0 := ⟨Or.inl gm_1186, gm_1187, gm_1188, gm_27, gm_1189, by decide +kernel⟩

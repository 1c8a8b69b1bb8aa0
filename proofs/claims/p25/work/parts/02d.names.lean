theorem dX3_models_0 : decode cX3_models 0 = .ok (.aload_n 0, 1) := by decide +kernel
theorem dX3_models_1 : decode cX3_models 1 = .ok (.getfield 10, 3) := by decide +kernel
theorem dX3_models_4 : decode cX3_models 4 = .ok (.aload_n 0, 1) := by decide +kernel
theorem dX3_models_5 : decode cX3_models 5 = .ok (.getfield 10, 3) := by decide +kernel
theorem dX3_models_8 : decode cX3_models 8 = .ok (.invokevirtual 117, 3) := by decide +kernel
theorem dX3_models_11 : decode cX3_models 11 = .ok (.invokevirtual 121, 3) := by decide +kernel
theorem dX3_models_14 : decode cX3_models 14 = .ok (.invokestatic 125, 3) := by decide +kernel
theorem dX3_models_17 : decode cX3_models 17 = .ok (.ireturn, 1) := by decide +kernel
set_option maxRecDepth 20000 in
theorem ggX3_core_X1_toldClauses : GoodIn wsX3_core wsX1_toldClauses := goodIn_r _ [6, 7, 8, 9, 10, 4, 11, 12, 13, 14, 15, 16, 17, 34, 35, 36, 37, 38, 39, 40, 41, 42, 43, 44, 45, 46] (by decide +kernel) (by decide +kernel)
set_option maxRecDepth 20000 in
theorem gX3_core_X1_toldClauses_n117 : GoodIn wsX3_core (wsX1_toldClauses) := ggX3_core_X1_toldClauses
set_option maxRecDepth 20000 in
theorem ggX3_core_X1_valuesFulfilling : GoodIn wsX3_core wsX1_valuesFulfilling := goodIn_r _ [20, 21, 7, 22, 23, 14, 24, 25, 26, 34, 35, 36, 37, 38, 39, 40, 41, 42, 43, 44, 45, 46] (by decide +kernel) (by decide +kernel)
set_option maxRecDepth 20000 in
theorem gX3_core_X1_valuesFulfilling_n121 : GoodIn wsX3_core (wsX1_valuesFulfilling) := ggX3_core_X1_valuesFulfilling
set_option maxRecDepth 20000 in
theorem ggX3_core_X1_fewestUnfulfillable : GoodIn wsX3_core wsX1_fewestUnfulfillable := goodIn_r _ [29, 7, 21, 16, 14, 17, 30, 18, 19, 4, 20, 22, 23, 24, 25, 26, 34, 35, 36, 37, 38, 39, 40, 41, 42, 43, 44, 45, 46] (by decide +kernel) (by decide +kernel)
set_option maxRecDepth 20000 in
theorem gX3_core_X1_fewestUnfulfillable_n137 : GoodIn wsX3_core (wsX1_fewestUnfulfillable) := ggX3_core_X1_fewestUnfulfillable
theorem dX3_core_0 : decode cX3_core 0 = .ok (.aload_n 0, 1) := by decide +kernel
theorem dX3_core_1 : decode cX3_core 1 = .ok (.getfield 10, 3) := by decide +kernel
theorem dX3_core_4 : decode cX3_core 4 = .ok (.invokevirtual 117, 3) := by decide +kernel
theorem dX3_core_7 : decode cX3_core 7 = .ok (.lstore_n 1, 1) := by decide +kernel
theorem dX3_core_8 : decode cX3_core 8 = .ok (.aload_n 0, 1) := by decide +kernel
theorem dX3_core_9 : decode cX3_core 9 = .ok (.getfield 10, 3) := by decide +kernel
theorem dX3_core_12 : decode cX3_core 12 = .ok (.lload_n 1, 1) := by decide +kernel
theorem dX3_core_13 : decode cX3_core 13 = .ok (.invokevirtual 121, 3) := by decide +kernel
theorem dX3_core_16 : decode cX3_core 16 = .ok (.lconst 0, 1) := by decide +kernel
theorem dX3_core_17 : decode cX3_core 17 = .ok (.lcmp, 1) := by decide +kernel
theorem dX3_core_18 : decode cX3_core 18 = .ok (.ifCond .ne 14, 3) := by decide +kernel
theorem dX3_core_21 : decode cX3_core 21 = .ok (.aload_n 0, 1) := by decide +kernel
theorem dX3_core_22 : decode cX3_core 22 = .ok (.getfield 10, 3) := by decide +kernel
theorem dX3_core_25 : decode cX3_core 25 = .ok (.lload_n 1, 1) := by decide +kernel
theorem dX3_core_26 : decode cX3_core 26 = .ok (.invokevirtual 137, 3) := by decide +kernel
theorem dX3_core_29 : decode cX3_core 29 = .ok (.goto 6, 3) := by decide +kernel
theorem dX3_core_32 : decode cX3_core 32 = .ok (.ldc2_w 140, 3) := by decide +kernel
theorem dX3_core_35 : decode cX3_core 35 = .ok (.lreturn, 1) := by decide +kernel
set_option maxRecDepth 20000 in
theorem ggX3_follows_X1_toldClauses : GoodIn wsX3_follows wsX1_toldClauses := goodIn_r _ [7, 8, 9, 10, 11, 5, 12, 13, 14, 15, 16, 17, 18, 36, 37, 38, 39, 40, 41, 42, 43, 44, 45, 46, 47, 48] (by decide +kernel) (by decide +kernel)
set_option maxRecDepth 20000 in
theorem gX3_follows_X1_toldClauses_n117 : GoodIn wsX3_follows (wsX1_toldClauses) := ggX3_follows_X1_toldClauses
set_option maxRecDepth 20000 in
theorem ggX3_follows_X1_valuesFulfilling : GoodIn wsX3_follows wsX1_valuesFulfilling := goodIn_r _ [21, 22, 8, 23, 24, 15, 25, 26, 27, 36, 37, 38, 39, 40, 41, 42, 43, 44, 45, 46, 47, 48] (by decide +kernel) (by decide +kernel)
set_option maxRecDepth 20000 in
theorem gX3_follows_X1_valuesFulfilling_n121 : GoodIn wsX3_follows (wsX1_valuesFulfilling) := ggX3_follows_X1_valuesFulfilling
set_option maxRecDepth 20000 in
theorem ggX3_follows_X3_valuesOfClause : GoodIn wsX3_follows wsX3_valuesOfClause := goodIn_r _ [30, 31, 3, 32, 26, 15, 27] (by decide +kernel) (by decide +kernel)
set_option maxRecDepth 20000 in
theorem gX3_follows_X3_valuesOfClause : GoodIn wsX3_follows (va_wsS RX3 142 yX3_valuesOfClause wsX3_valuesOfClause) := goodIn_app (goodIn_of _ (by decide +kernel)) ggX3_follows_X3_valuesOfClause
theorem dX3_follows_0 : decode cX3_follows 0 = .ok (.iload_n 1, 1) := by decide +kernel
theorem dX3_follows_1 : decode cX3_follows 1 = .ok (.ifCond .lt 10, 3) := by decide +kernel
theorem dX3_follows_4 : decode cX3_follows 4 = .ok (.iload_n 1, 1) := by decide +kernel
theorem dX3_follows_5 : decode cX3_follows 5 = .ok (.sipush 4095, 3) := by decide +kernel
theorem dX3_follows_8 : decode cX3_follows 8 = .ok (.if_icmp .le 6, 3) := by decide +kernel
theorem dX3_follows_11 : decode cX3_follows 11 = .ok (.ldc 30, 2) := by decide +kernel
theorem dX3_follows_13 : decode cX3_follows 13 = .ok (.ireturn, 1) := by decide +kernel
theorem dX3_follows_14 : decode cX3_follows 14 = .ok (.aload_n 0, 1) := by decide +kernel
theorem dX3_follows_15 : decode cX3_follows 15 = .ok (.getfield 10, 3) := by decide +kernel
theorem dX3_follows_18 : decode cX3_follows 18 = .ok (.aload_n 0, 1) := by decide +kernel
theorem dX3_follows_19 : decode cX3_follows 19 = .ok (.getfield 10, 3) := by decide +kernel
theorem dX3_follows_22 : decode cX3_follows 22 = .ok (.invokevirtual 117, 3) := by decide +kernel
theorem dX3_follows_25 : decode cX3_follows 25 = .ok (.invokevirtual 121, 3) := by decide +kernel
theorem dX3_follows_28 : decode cX3_follows 28 = .ok (.lstore_n 2, 1) := by decide +kernel
theorem dX3_follows_29 : decode cX3_follows 29 = .ok (.lload_n 2, 1) := by decide +kernel
theorem dX3_follows_30 : decode cX3_follows 30 = .ok (.iload_n 1, 1) := by decide +kernel
theorem dX3_follows_31 : decode cX3_follows 31 = .ok (.invokestatic 142, 3) := by decide +kernel
theorem dX3_follows_34 : decode cX3_follows 34 = .ok (.ldc2_w 145, 3) := by decide +kernel
theorem dX3_follows_37 : decode cX3_follows 37 = .ok (.lxor, 1) := by decide +kernel
theorem dX3_follows_38 : decode cX3_follows 38 = .ok (.land, 1) := by decide +kernel
theorem dX3_follows_39 : decode cX3_follows 39 = .ok (.lconst 0, 1) := by decide +kernel
theorem dX3_follows_40 : decode cX3_follows 40 = .ok (.lcmp, 1) := by decide +kernel
theorem dX3_follows_41 : decode cX3_follows 41 = .ok (.ifCond .ne 7, 3) := by decide +kernel
theorem dX3_follows_44 : decode cX3_follows 44 = .ok (.iconst 1, 1) := by decide +kernel
theorem dX3_follows_45 : decode cX3_follows 45 = .ok (.goto 4, 3) := by decide +kernel
theorem dX3_follows_48 : decode cX3_follows 48 = .ok (.iconst 0, 1) := by decide +kernel
theorem dX3_follows_49 : decode cX3_follows 49 = .ok (.ireturn, 1) := by decide +kernel
set_option maxRecDepth 20000 in
theorem ggX3_share_X3_valuesOfClause : GoodIn wsX3_share wsX3_valuesOfClause := goodIn_r _ [5, 6, 7, 8, 9, 4, 10] (by decide +kernel) (by decide +kernel)
set_option maxRecDepth 20000 in
theorem gX3_share_X3_valuesOfClause : GoodIn wsX3_share (va_wsS RX3 142 yX3_valuesOfClause wsX3_valuesOfClause) := goodIn_app (goodIn_of _ (by decide +kernel)) ggX3_share_X3_valuesOfClause
set_option maxRecDepth 20000 in
theorem ggX3_share_J13_bitCount_95d88 : GoodIn wsX3_share wsJ13_bitCount_95d88 := goodIn_r _ [14, 15, 16, 17] (by decide +kernel) (by decide +kernel)
set_option maxRecDepth 20000 in
theorem gX3_share_J13_bitCount_95d88 : GoodIn wsX3_share (va_wsS RX3 125 yJ13_bitCount_95d88 wsJ13_bitCount_95d88) := goodIn_app (goodIn_of _ (by decide +kernel)) ggX3_share_J13_bitCount_95d88
set_option maxRecDepth 20000 in
theorem ggX3_share_X3_floatBitsOf64ths : GoodIn wsX3_share wsX3_floatBitsOf64ths := goodIn_r _ [20, 21] (by decide +kernel) (by decide +kernel)
set_option maxRecDepth 20000 in
theorem gX3_share_X3_floatBitsOf64ths : GoodIn wsX3_share (va_wsS RX3 147 yX3_floatBitsOf64ths wsX3_floatBitsOf64ths) := goodIn_app (goodIn_of _ (by decide +kernel)) ggX3_share_X3_floatBitsOf64ths
theorem dX3_share_0 : decode cX3_share 0 = .ok (.iload_n 1, 1) := by decide +kernel
theorem dX3_share_1 : decode cX3_share 1 = .ok (.ifCond .lt 10, 3) := by decide +kernel
theorem dX3_share_4 : decode cX3_share 4 = .ok (.iload_n 1, 1) := by decide +kernel
theorem dX3_share_5 : decode cX3_share 5 = .ok (.sipush 4095, 3) := by decide +kernel
theorem dX3_share_8 : decode cX3_share 8 = .ok (.if_icmp .le 6, 3) := by decide +kernel
theorem dX3_share_11 : decode cX3_share 11 = .ok (.ldc 30, 2) := by decide +kernel
theorem dX3_share_13 : decode cX3_share 13 = .ok (.ireturn, 1) := by decide +kernel
theorem dX3_share_14 : decode cX3_share 14 = .ok (.iload_n 1, 1) := by decide +kernel
theorem dX3_share_15 : decode cX3_share 15 = .ok (.invokestatic 142, 3) := by decide +kernel
theorem dX3_share_18 : decode cX3_share 18 = .ok (.invokestatic 125, 3) := by decide +kernel
theorem dX3_share_21 : decode cX3_share 21 = .ok (.invokestatic 147, 3) := by decide +kernel
theorem dX3_share_24 : decode cX3_share 24 = .ok (.ireturn, 1) := by decide +kernel
set_option maxRecDepth 20000 in
theorem ggX3_count_X1_howMany : GoodIn wsX3_count wsX1_howMany := goodIn_r _ [8, 9, 10, 11, 12, 13, 21, 22, 23, 24, 25, 26, 27, 28, 29, 30, 31, 32, 33] (by decide +kernel) (by decide +kernel)
set_option maxRecDepth 20000 in
theorem gX3_count_X1_howMany_n150 : GoodIn wsX3_count (wsX1_howMany) := ggX3_count_X1_howMany
set_option maxRecDepth 20000 in
theorem ggX3_count_X1_rankOf : GoodIn wsX3_count wsX1_rankOf := goodIn_r _ [16, 17, 11, 12, 13, 21, 22, 23, 24, 25, 26, 27, 28, 29, 30, 31, 32, 33] (by decide +kernel) (by decide +kernel)
set_option maxRecDepth 20000 in
theorem gX3_count_X1_rankOf_n165 : GoodIn wsX3_count (wsX1_rankOf) := ggX3_count_X1_rankOf
theorem dX3_count_0 : decode cX3_count 0 = .ok (.iload_n 1, 1) := by decide +kernel
theorem dX3_count_1 : decode cX3_count 1 = .ok (.tableswitch 138 0 9 #[55, 63, 72, 81, 90, 98, 106, 114, 122, 130], 55) := by decide +kernel
theorem dX3_count_56 : decode cX3_count 56 = .ok (.aload_n 0, 1) := by decide +kernel
theorem dX3_count_57 : decode cX3_count 57 = .ok (.getfield 10, 3) := by decide +kernel
theorem dX3_count_60 : decode cX3_count 60 = .ok (.getfield 57, 3) := by decide +kernel
theorem dX3_count_63 : decode cX3_count 63 = .ok (.ireturn, 1) := by decide +kernel
theorem dX3_count_64 : decode cX3_count 64 = .ok (.aload_n 0, 1) := by decide +kernel
theorem dX3_count_65 : decode cX3_count 65 = .ok (.getfield 10, 3) := by decide +kernel
theorem dX3_count_68 : decode cX3_count 68 = .ok (.iconst 0, 1) := by decide +kernel
theorem dX3_count_69 : decode cX3_count 69 = .ok (.invokevirtual 150, 3) := by decide +kernel
theorem dX3_count_72 : decode cX3_count 72 = .ok (.ireturn, 1) := by decide +kernel
theorem dX3_count_73 : decode cX3_count 73 = .ok (.aload_n 0, 1) := by decide +kernel
theorem dX3_count_74 : decode cX3_count 74 = .ok (.getfield 10, 3) := by decide +kernel
theorem dX3_count_77 : decode cX3_count 77 = .ok (.iconst 1, 1) := by decide +kernel
theorem dX3_count_78 : decode cX3_count 78 = .ok (.invokevirtual 150, 3) := by decide +kernel
theorem dX3_count_81 : decode cX3_count 81 = .ok (.ireturn, 1) := by decide +kernel
theorem dX3_count_82 : decode cX3_count 82 = .ok (.aload_n 0, 1) := by decide +kernel
theorem dX3_count_83 : decode cX3_count 83 = .ok (.getfield 10, 3) := by decide +kernel
theorem dX3_count_86 : decode cX3_count 86 = .ok (.iconst 2, 1) := by decide +kernel
theorem dX3_count_87 : decode cX3_count 87 = .ok (.invokevirtual 150, 3) := by decide +kernel
theorem dX3_count_90 : decode cX3_count 90 = .ok (.ireturn, 1) := by decide +kernel
theorem dX3_count_91 : decode cX3_count 91 = .ok (.aload_n 0, 1) := by decide +kernel
theorem dX3_count_92 : decode cX3_count 92 = .ok (.getfield 10, 3) := by decide +kernel
theorem dX3_count_95 : decode cX3_count 95 = .ok (.getfield 60, 3) := by decide +kernel
theorem dX3_count_98 : decode cX3_count 98 = .ok (.ireturn, 1) := by decide +kernel
theorem dX3_count_99 : decode cX3_count 99 = .ok (.aload_n 0, 1) := by decide +kernel
theorem dX3_count_100 : decode cX3_count 100 = .ok (.getfield 10, 3) := by decide +kernel
theorem dX3_count_103 : decode cX3_count 103 = .ok (.getfield 47, 3) := by decide +kernel
theorem dX3_count_106 : decode cX3_count 106 = .ok (.ireturn, 1) := by decide +kernel
theorem dX3_count_107 : decode cX3_count 107 = .ok (.aload_n 0, 1) := by decide +kernel
theorem dX3_count_108 : decode cX3_count 108 = .ok (.getfield 10, 3) := by decide +kernel
theorem dX3_count_111 : decode cX3_count 111 = .ok (.getfield 153, 3) := by decide +kernel
theorem dX3_count_114 : decode cX3_count 114 = .ok (.ireturn, 1) := by decide +kernel
theorem dX3_count_115 : decode cX3_count 115 = .ok (.aload_n 0, 1) := by decide +kernel
theorem dX3_count_116 : decode cX3_count 116 = .ok (.getfield 10, 3) := by decide +kernel
theorem dX3_count_119 : decode cX3_count 119 = .ok (.getfield 156, 3) := by decide +kernel
theorem dX3_count_122 : decode cX3_count 122 = .ok (.ireturn, 1) := by decide +kernel
theorem dX3_count_123 : decode cX3_count 123 = .ok (.aload_n 0, 1) := by decide +kernel
theorem dX3_count_124 : decode cX3_count 124 = .ok (.getfield 19, 3) := by decide +kernel
theorem dX3_count_127 : decode cX3_count 127 = .ok (.getfield 159, 3) := by decide +kernel
theorem dX3_count_130 : decode cX3_count 130 = .ok (.ireturn, 1) := by decide +kernel
theorem dX3_count_131 : decode cX3_count 131 = .ok (.aload_n 0, 1) := by decide +kernel
theorem dX3_count_132 : decode cX3_count 132 = .ok (.getfield 26, 3) := by decide +kernel
theorem dX3_count_135 : decode cX3_count 135 = .ok (.getfield 162, 3) := by decide +kernel
theorem dX3_count_138 : decode cX3_count 138 = .ok (.ireturn, 1) := by decide +kernel
theorem dX3_count_139 : decode cX3_count 139 = .ok (.iload_n 1, 1) := by decide +kernel
theorem dX3_count_140 : decode cX3_count 140 = .ok (.bipush 10, 2) := by decide +kernel
theorem dX3_count_142 : decode cX3_count 142 = .ok (.if_icmp .lt 23, 3) := by decide +kernel
theorem dX3_count_145 : decode cX3_count 145 = .ok (.iload_n 1, 1) := by decide +kernel
theorem dX3_count_146 : decode cX3_count 146 = .ok (.bipush 16, 2) := by decide +kernel
theorem dX3_count_148 : decode cX3_count 148 = .ok (.if_icmp .ge 17, 3) := by decide +kernel
theorem dX3_count_151 : decode cX3_count 151 = .ok (.aload_n 0, 1) := by decide +kernel
theorem dX3_count_152 : decode cX3_count 152 = .ok (.getfield 10, 3) := by decide +kernel
theorem dX3_count_155 : decode cX3_count 155 = .ok (.iload_n 1, 1) := by decide +kernel
theorem dX3_count_156 : decode cX3_count 156 = .ok (.bipush 10, 2) := by decide +kernel
theorem dX3_count_158 : decode cX3_count 158 = .ok (.isub, 1) := by decide +kernel
theorem dX3_count_159 : decode cX3_count 159 = .ok (.invokevirtual 165, 3) := by decide +kernel
theorem dX3_count_162 : decode cX3_count 162 = .ok (.goto 5, 3) := by decide +kernel
theorem dX3_count_165 : decode cX3_count 165 = .ok (.ldc 30, 2) := by decide +kernel
theorem dX3_count_167 : decode cX3_count 167 = .ok (.ireturn, 1) := by decide +kernel
set_option maxRecDepth 20000 in
theorem ggX3_undo_X0_restoreLatest : GoodIn wsX3_undo wsX0_restoreLatest := goodIn_r _ [7, 8, 9, 10, 11, 5, 12, 13, 14, 15, 16, 17, 18, 19, 20, 21, 22, 23, 24, 25, 26, 27, 28, 29, 30, 31, 32, 33, 34, 35, 36, 37, 38, 39, 40, 41, 42, 43, 47, 48, 49, 50, 51, 52, 53, 54, 55, 56, 57, 58, 59, 60, 61] (by decide +kernel) (by decide +kernel)
set_option maxRecDepth 20000 in
theorem gX3_undo_X0_restoreLatest_n168 : GoodIn wsX3_undo (wsX0_restoreLatest) := ggX3_undo_X0_restoreLatest
theorem dX3_undo_0 : decode cX3_undo 0 = .ok (.aload_n 0, 1) := by decide +kernel
theorem dX3_undo_1 : decode cX3_undo 1 = .ok (.getfield 19, 3) := by decide +kernel
theorem dX3_undo_4 : decode cX3_undo 4 = .ok (.aload_n 0, 1) := by decide +kernel
theorem dX3_undo_5 : decode cX3_undo 5 = .ok (.getfield 10, 3) := by decide +kernel
theorem dX3_undo_8 : decode cX3_undo 8 = .ok (.invokevirtual 168, 3) := by decide +kernel
theorem dX3_undo_11 : decode cX3_undo 11 = .ok (.ifCond .eq 13, 3) := by decide +kernel
theorem dX3_undo_14 : decode cX3_undo 14 = .ok (.aload_n 0, 1) := by decide +kernel
theorem dX3_undo_15 : decode cX3_undo 15 = .ok (.getfield 19, 3) := by decide +kernel
theorem dX3_undo_18 : decode cX3_undo 18 = .ok (.getfield 159, 3) := by decide +kernel
theorem dX3_undo_21 : decode cX3_undo 21 = .ok (.goto 5, 3) := by decide +kernel
theorem dX3_undo_24 : decode cX3_undo 24 = .ok (.ldc 56, 2) := by decide +kernel
theorem dX3_undo_26 : decode cX3_undo 26 = .ok (.ireturn, 1) := by decide +kernel
set_option maxRecDepth 20000 in
theorem ggX3_type_X2_add : GoodIn wsX3_type wsX2_add := goodIn_r _ [7, 8, 9, 10, 11, 12, 16, 17] (by decide +kernel) (by decide +kernel)
set_option maxRecDepth 20000 in
theorem gX3_type_X2_add_n172 : GoodIn wsX3_type (wsX2_add) := ggX3_type_X2_add
theorem dX3_type_0 : decode cX3_type 0 = .ok (.iload_n 1, 1) := by decide +kernel
theorem dX3_type_1 : decode cX3_type 1 = .ok (.bipush 32, 2) := by decide +kernel
theorem dX3_type_3 : decode cX3_type 3 = .ok (.if_icmp .lt 9, 3) := by decide +kernel
theorem dX3_type_6 : decode cX3_type 6 = .ok (.iload_n 1, 1) := by decide +kernel
theorem dX3_type_7 : decode cX3_type 7 = .ok (.bipush 126, 2) := by decide +kernel
theorem dX3_type_9 : decode cX3_type 9 = .ok (.if_icmp .le 6, 3) := by decide +kernel
theorem dX3_type_12 : decode cX3_type 12 = .ok (.ldc 30, 2) := by decide +kernel
theorem dX3_type_14 : decode cX3_type 14 = .ok (.ireturn, 1) := by decide +kernel
theorem dX3_type_15 : decode cX3_type 15 = .ok (.aload_n 0, 1) := by decide +kernel
theorem dX3_type_16 : decode cX3_type 16 = .ok (.getfield 26, 3) := by decide +kernel
theorem dX3_type_19 : decode cX3_type 19 = .ok (.iload_n 1, 1) := by decide +kernel
theorem dX3_type_20 : decode cX3_type 20 = .ok (.invokevirtual 172, 3) := by decide +kernel
theorem dX3_type_23 : decode cX3_type 23 = .ok (.ifCond .eq 13, 3) := by decide +kernel
theorem dX3_type_26 : decode cX3_type 26 = .ok (.aload_n 0, 1) := by decide +kernel
theorem dX3_type_27 : decode cX3_type 27 = .ok (.getfield 26, 3) := by decide +kernel
theorem dX3_type_30 : decode cX3_type 30 = .ok (.getfield 162, 3) := by decide +kernel
theorem dX3_type_33 : decode cX3_type 33 = .ok (.goto 5, 3) := by decide +kernel
theorem dX3_type_36 : decode cX3_type 36 = .ok (.ldc 55, 2) := by decide +kernel
theorem dX3_type_38 : decode cX3_type 38 = .ok (.ireturn, 1) := by decide +kernel
theorem dX3_clearText_0 : decode cX3_clearText 0 = .ok (.aload_n 0, 1) := by decide +kernel
theorem dX3_clearText_1 : decode cX3_clearText 1 = .ok (.getfield 26, 3) := by decide +kernel
theorem dX3_clearText_4 : decode cX3_clearText 4 = .ok (.getfield 162, 3) := by decide +kernel
theorem dX3_clearText_7 : decode cX3_clearText 7 = .ok (.istore_n 1, 1) := by decide +kernel
theorem dX3_clearText_8 : decode cX3_clearText 8 = .ok (.aload_n 0, 1) := by decide +kernel
theorem dX3_clearText_9 : decode cX3_clearText 9 = .ok (.getfield 26, 3) := by decide +kernel
theorem dX3_clearText_12 : decode cX3_clearText 12 = .ok (.iconst 0, 1) := by decide +kernel
theorem dX3_clearText_13 : decode cX3_clearText 13 = .ok (.putfield 162, 3) := by decide +kernel
theorem dX3_clearText_16 : decode cX3_clearText 16 = .ok (.iload_n 1, 1) := by decide +kernel
theorem dX3_clearText_17 : decode cX3_clearText 17 = .ok (.ireturn, 1) := by decide +kernel
set_option maxRecDepth 20000 in
theorem ggX3_fault_X2_whereItBreaksOff : GoodIn wsX3_fault wsX2_whereItBreaksOff := goodIn_r _ [7, 8, 9, 10, 11, 12, 19, 20] (by decide +kernel) (by decide +kernel)
set_option maxRecDepth 20000 in
theorem gX3_fault_X2_whereItBreaksOff_n175 : GoodIn wsX3_fault (wsX2_whereItBreaksOff) := ggX3_fault_X2_whereItBreaksOff
set_option maxRecDepth 20000 in
theorem ggX3_fault_X2_startOfClause : GoodIn wsX3_fault wsX2_startOfClause := goodIn_r _ [15, 9, 10, 11, 12, 19, 20] (by decide +kernel) (by decide +kernel)
set_option maxRecDepth 20000 in
theorem gX3_fault_X2_startOfClause_n178 : GoodIn wsX3_fault (wsX2_startOfClause) := ggX3_fault_X2_startOfClause
theorem dX3_fault_0 : decode cX3_fault 0 = .ok (.iload_n 1, 1) := by decide +kernel
theorem dX3_fault_1 : decode cX3_fault 1 = .ok (.ifCond .lt 8, 3) := by decide +kernel
theorem dX3_fault_4 : decode cX3_fault 4 = .ok (.iload_n 1, 1) := by decide +kernel
theorem dX3_fault_5 : decode cX3_fault 5 = .ok (.iconst 1, 1) := by decide +kernel
theorem dX3_fault_6 : decode cX3_fault 6 = .ok (.if_icmp .le 6, 3) := by decide +kernel
theorem dX3_fault_9 : decode cX3_fault 9 = .ok (.ldc 30, 2) := by decide +kernel
theorem dX3_fault_11 : decode cX3_fault 11 = .ok (.ireturn, 1) := by decide +kernel
theorem dX3_fault_12 : decode cX3_fault 12 = .ok (.aload_n 0, 1) := by decide +kernel
theorem dX3_fault_13 : decode cX3_fault 13 = .ok (.getfield 26, 3) := by decide +kernel
theorem dX3_fault_16 : decode cX3_fault 16 = .ok (.invokevirtual 175, 3) := by decide +kernel
theorem dX3_fault_19 : decode cX3_fault 19 = .ok (.istore_n 2, 1) := by decide +kernel
theorem dX3_fault_20 : decode cX3_fault 20 = .ok (.iload_n 2, 1) := by decide +kernel
theorem dX3_fault_21 : decode cX3_fault 21 = .ok (.iconst (-1), 1) := by decide +kernel
theorem dX3_fault_22 : decode cX3_fault 22 = .ok (.if_icmp .ne 6, 3) := by decide +kernel
theorem dX3_fault_25 : decode cX3_fault 25 = .ok (.ldc 133, 2) := by decide +kernel
theorem dX3_fault_27 : decode cX3_fault 27 = .ok (.ireturn, 1) := by decide +kernel
theorem dX3_fault_28 : decode cX3_fault 28 = .ok (.aload_n 0, 1) := by decide +kernel
theorem dX3_fault_29 : decode cX3_fault 29 = .ok (.getfield 26, 3) := by decide +kernel
theorem dX3_fault_32 : decode cX3_fault 32 = .ok (.iload_n 2, 1) := by decide +kernel
theorem dX3_fault_33 : decode cX3_fault 33 = .ok (.invokevirtual 178, 3) := by decide +kernel
theorem dX3_fault_36 : decode cX3_fault 36 = .ok (.istore_n 3, 1) := by decide +kernel
theorem dX3_fault_37 : decode cX3_fault 37 = .ok (.iload_n 1, 1) := by decide +kernel
theorem dX3_fault_38 : decode cX3_fault 38 = .ok (.ifCond .ne 7, 3) := by decide +kernel
theorem dX3_fault_41 : decode cX3_fault 41 = .ok (.iload_n 3, 1) := by decide +kernel
theorem dX3_fault_42 : decode cX3_fault 42 = .ok (.goto 6, 3) := by decide +kernel
theorem dX3_fault_45 : decode cX3_fault 45 = .ok (.iload_n 2, 1) := by decide +kernel
theorem dX3_fault_46 : decode cX3_fault 46 = .ok (.iload_n 3, 1) := by decide +kernel
theorem dX3_fault_47 : decode cX3_fault 47 = .ok (.isub, 1) := by decide +kernel
theorem dX3_fault_48 : decode cX3_fault 48 = .ok (.ireturn, 1) := by decide +kernel
set_option maxRecDepth 20000 in
theorem ggX3_play_X2_whereItBreaksOff : GoodIn wsX3_play wsX2_whereItBreaksOff := goodIn_r _ [8, 9, 10, 11, 12, 13, 115, 116] (by decide +kernel) (by decide +kernel)
set_option maxRecDepth 20000 in
theorem gX3_play_X2_whereItBreaksOff_n175 : GoodIn wsX3_play (wsX2_whereItBreaksOff) := ggX3_play_X2_whereItBreaksOff
set_option maxRecDepth 20000 in
theorem ggX3_play_X0_putAside : GoodIn wsX3_play wsX0_putAside := goodIn_r _ [17, 18, 19, 20, 21, 15, 22, 23, 24, 25, 26, 27, 28, 29, 30, 31, 32, 33, 34, 35, 36, 37, 38, 39, 40, 41, 12, 42, 43, 44, 45, 46, 47, 48, 49, 50, 51, 52, 117, 118, 119, 120, 121, 122, 123, 124, 125, 126, 127, 128, 129, 130, 131] (by decide +kernel) (by decide +kernel)
set_option maxRecDepth 20000 in
theorem gX3_play_X0_putAside_n31 : GoodIn wsX3_play (wsX0_putAside) := ggX3_play_X0_putAside
set_option maxRecDepth 20000 in
theorem ggX3_play_X3_bringText : GoodIn wsX3_play wsX3_bringText := goodIn_r _ [56, 1, 4, 57, 58, 11, 12, 13, 59, 25, 60, 61, 39, 40, 36, 62, 63, 64, 65, 66, 67, 68, 29, 69, 70, 71, 72, 30, 73, 74, 75, 76, 77, 78, 79, 80, 81, 82, 83, 84, 31, 32, 33, 34, 85, 86, 45, 87, 35, 88, 89, 90, 91, 92, 93, 94, 95, 96, 112, 113, 114, 115, 116, 119, 120, 121, 122, 123, 124, 125, 126, 127, 128, 129, 130, 131] (by decide +kernel) (by decide +kernel)
set_option maxRecDepth 20000 in
theorem gX3_play_X3_bringText : GoodIn wsX3_play (wsV RX3 181 RX3 yX3_bringText wsX3_bringText) := goodIn_app (goodIn_of _ (by decide +kernel)) ggX3_play_X3_bringText
set_option maxRecDepth 20000 in
theorem ggX3_play_X3_settle : GoodIn wsX3_play wsX3_settle := goodIn_r _ [100, 101, 3, 4, 102, 15, 103, 104, 18, 19, 20, 21, 22, 23, 24, 25, 26, 27, 28, 29, 30, 31, 32, 33, 34, 35, 36, 37, 38, 39, 40, 41, 12, 42, 43, 44, 45, 46, 47, 48, 49, 50, 51, 52, 105, 106, 107, 108, 109, 110, 111, 112, 113, 114, 117, 118, 119, 120, 121, 122, 123, 124, 125, 126, 127, 128, 129, 130, 131] (by decide +kernel) (by decide +kernel)
set_option maxRecDepth 20000 in
theorem gX3_play_X3_settle : GoodIn wsX3_play (wsV RX3 39 RX3 yX3_settle wsX3_settle) := goodIn_app (goodIn_of _ (by decide +kernel)) ggX3_play_X3_settle
theorem dX3_play_0 : decode cX3_play 0 = .ok (.aload_n 0, 1) := by decide +kernel
theorem dX3_play_1 : decode cX3_play 1 = .ok (.getfield 26, 3) := by decide +kernel
theorem dX3_play_4 : decode cX3_play 4 = .ok (.invokevirtual 175, 3) := by decide +kernel
theorem dX3_play_7 : decode cX3_play 7 = .ok (.iconst (-1), 1) := by decide +kernel
theorem dX3_play_8 : decode cX3_play 8 = .ok (.if_icmp .eq 6, 3) := by decide +kernel
theorem dX3_play_11 : decode cX3_play 11 = .ok (.ldc 56, 2) := by decide +kernel
theorem dX3_play_13 : decode cX3_play 13 = .ok (.ireturn, 1) := by decide +kernel
theorem dX3_play_14 : decode cX3_play 14 = .ok (.aload_n 0, 1) := by decide +kernel
theorem dX3_play_15 : decode cX3_play 15 = .ok (.getfield 19, 3) := by decide +kernel
theorem dX3_play_18 : decode cX3_play 18 = .ok (.aload_n 0, 1) := by decide +kernel
theorem dX3_play_19 : decode cX3_play 19 = .ok (.getfield 10, 3) := by decide +kernel
theorem dX3_play_22 : decode cX3_play 22 = .ok (.invokevirtual 31, 3) := by decide +kernel
theorem dX3_play_25 : decode cX3_play 25 = .ok (.aload_n 0, 1) := by decide +kernel
theorem dX3_play_26 : decode cX3_play 26 = .ok (.aload_n 0, 1) := by decide +kernel
theorem dX3_play_27 : decode cX3_play 27 = .ok (.invokevirtual 181, 3) := by decide +kernel
theorem dX3_play_30 : decode cX3_play 30 = .ok (.invokevirtual 39, 3) := by decide +kernel
theorem dX3_play_33 : decode cX3_play 33 = .ok (.ireturn, 1) := by decide +kernel
set_option maxRecDepth 20000 in
theorem ggX3_settle_X0_takeBack : GoodIn wsX3_settle wsX0_takeBack := goodIn_r _ [7, 8, 9, 10, 11, 5, 12, 13, 14, 15, 16, 17, 18, 19, 20, 21, 22, 23, 24, 25, 26, 27, 28, 29, 30, 31, 32, 33, 34, 35, 36, 37, 38, 39, 40, 41, 42, 43, 54, 55, 56, 57, 58, 59, 60, 61, 62, 63, 64, 65, 66, 67, 68] (by decide +kernel) (by decide +kernel)
set_option maxRecDepth 20000 in
theorem gX3_settle_X0_takeBack_n184 : GoodIn wsX3_settle (wsX0_takeBack) := ggX3_settle_X0_takeBack
set_option maxRecDepth 20000 in
theorem ggX3_settle_X0_keep : GoodIn wsX3_settle wsX0_keep := goodIn_r _ [46, 8, 47, 48, 49, 5, 50, 13, 9, 10, 11, 12, 54, 55] (by decide +kernel) (by decide +kernel)
set_option maxRecDepth 20000 in
theorem gX3_settle_X0_keep_n187 : GoodIn wsX3_settle (wsX0_keep) := ggX3_settle_X0_keep
theorem dX3_settle_0 : decode cX3_settle 0 = .ok (.iload_n 1, 1) := by decide +kernel
theorem dX3_settle_1 : decode cX3_settle 1 = .ok (.ldc 30, 2) := by decide +kernel
theorem dX3_settle_3 : decode cX3_settle 3 = .ok (.if_icmp .gt 17, 3) := by decide +kernel
theorem dX3_settle_6 : decode cX3_settle 6 = .ok (.aload_n 0, 1) := by decide +kernel
theorem dX3_settle_7 : decode cX3_settle 7 = .ok (.getfield 19, 3) := by decide +kernel
theorem dX3_settle_10 : decode cX3_settle 10 = .ok (.aload_n 0, 1) := by decide +kernel
theorem dX3_settle_11 : decode cX3_settle 11 = .ok (.getfield 10, 3) := by decide +kernel
theorem dX3_settle_14 : decode cX3_settle 14 = .ok (.invokevirtual 184, 3) := by decide +kernel
theorem dX3_settle_17 : decode cX3_settle 17 = .ok (.goto 10, 3) := by decide +kernel
theorem dX3_settle_20 : decode cX3_settle 20 = .ok (.aload_n 0, 1) := by decide +kernel
theorem dX3_settle_21 : decode cX3_settle 21 = .ok (.getfield 19, 3) := by decide +kernel
theorem dX3_settle_24 : decode cX3_settle 24 = .ok (.invokevirtual 187, 3) := by decide +kernel
theorem dX3_settle_27 : decode cX3_settle 27 = .ok (.iload_n 1, 1) := by decide +kernel
theorem dX3_settle_28 : decode cX3_settle 28 = .ok (.ireturn, 1) := by decide +kernel
set_option maxRecDepth 20000 in
theorem ggX3_bringText_X3_at : GoodIn wsX3_bringText wsX3_at := goodIn_r _ [7] (by decide +kernel) (by decide +kernel)
set_option maxRecDepth 20000 in
theorem gX3_bringText_X3_at : GoodIn wsX3_bringText (va_wsS RX3 71 yX3_at wsX3_at) := goodIn_app (goodIn_of _ (by decide +kernel)) ggX3_bringText_X3_at
set_option maxRecDepth 20000 in
theorem ggX3_bringText_X1_bring : GoodIn wsX3_bringText wsX1_bring := goodIn_r _ [11, 12, 13, 14, 15, 16, 6, 17, 18, 19, 20, 9, 21, 22, 23, 24, 25, 26, 27, 5, 7, 28, 29, 30, 31, 32, 33, 34, 35, 36, 37, 38, 39, 40, 41, 42, 43, 44, 45, 46, 47, 48, 49, 50, 51, 52, 53, 54, 55, 56, 57, 63, 64, 65, 66, 67, 68, 69, 70, 71, 72, 73, 74, 75] (by decide +kernel) (by decide +kernel)
set_option maxRecDepth 20000 in
theorem gX3_bringText_X1_bring_n35 : GoodIn wsX3_bringText (wsX1_bring) := ggX3_bringText_X1_bring
theorem dX3_bringText_0 : decode cX3_bringText 0 = .ok (.iconst 0, 1) := by decide +kernel
theorem dX3_bringText_1 : decode cX3_bringText 1 = .ok (.istore_n 1, 1) := by decide +kernel
theorem dX3_bringText_2 : decode cX3_bringText 2 = .ok (.iconst 0, 1) := by decide +kernel
theorem dX3_bringText_3 : decode cX3_bringText 3 = .ok (.istore_n 2, 1) := by decide +kernel
theorem dX3_bringText_4 : decode cX3_bringText 4 = .ok (.iconst 0, 1) := by decide +kernel
theorem dX3_bringText_5 : decode cX3_bringText 5 = .ok (.istore_n 3, 1) := by decide +kernel
theorem dX3_bringText_6 : decode cX3_bringText 6 = .ok (.iconst 0, 1) := by decide +kernel
theorem dX3_bringText_7 : decode cX3_bringText 7 = .ok (.istore 4, 2) := by decide +kernel
theorem dX3_bringText_9 : decode cX3_bringText 9 = .ok (.iload 4, 2) := by decide +kernel
theorem dX3_bringText_11 : decode cX3_bringText 11 = .ok (.aload_n 0, 1) := by decide +kernel
theorem dX3_bringText_12 : decode cX3_bringText 12 = .ok (.getfield 26, 3) := by decide +kernel
theorem dX3_bringText_15 : decode cX3_bringText 15 = .ok (.getfield 162, 3) := by decide +kernel
theorem dX3_bringText_18 : decode cX3_bringText 18 = .ok (.if_icmp .ge 99, 3) := by decide +kernel
theorem dX3_bringText_21 : decode cX3_bringText 21 = .ok (.aload_n 0, 1) := by decide +kernel
theorem dX3_bringText_22 : decode cX3_bringText 22 = .ok (.getfield 26, 3) := by decide +kernel
theorem dX3_bringText_25 : decode cX3_bringText 25 = .ok (.getfield 190, 3) := by decide +kernel
theorem dX3_bringText_28 : decode cX3_bringText 28 = .ok (.iload 4, 2) := by decide +kernel
theorem dX3_bringText_30 : decode cX3_bringText 30 = .ok (.invokestatic 71, 3) := by decide +kernel
theorem dX3_bringText_33 : decode cX3_bringText 33 = .ok (.istore 5, 2) := by decide +kernel
theorem dX3_bringText_35 : decode cX3_bringText 35 = .ok (.iload 5, 2) := by decide +kernel
theorem dX3_bringText_37 : decode cX3_bringText 37 = .ok (.bipush 59, 2) := by decide +kernel
theorem dX3_bringText_39 : decode cX3_bringText 39 = .ok (.if_icmp .ne 44, 3) := by decide +kernel
theorem dX3_bringText_42 : decode cX3_bringText 42 = .ok (.aload_n 0, 1) := by decide +kernel
theorem dX3_bringText_43 : decode cX3_bringText 43 = .ok (.getfield 10, 3) := by decide +kernel
theorem dX3_bringText_46 : decode cX3_bringText 46 = .ok (.iload_n 2, 1) := by decide +kernel
theorem dX3_bringText_47 : decode cX3_bringText 47 = .ok (.iconst (-1), 1) := by decide +kernel
theorem dX3_bringText_48 : decode cX3_bringText 48 = .ok (.iconst (-1), 1) := by decide +kernel
theorem dX3_bringText_49 : decode cX3_bringText 49 = .ok (.iconst (-1), 1) := by decide +kernel
theorem dX3_bringText_50 : decode cX3_bringText 50 = .ok (.invokevirtual 35, 3) := by decide +kernel
theorem dX3_bringText_53 : decode cX3_bringText 53 = .ok (.istore 6, 2) := by decide +kernel
theorem dX3_bringText_55 : decode cX3_bringText 55 = .ok (.iload 6, 2) := by decide +kernel
theorem dX3_bringText_57 : decode cX3_bringText 57 = .ok (.ldc 55, 2) := by decide +kernel
theorem dX3_bringText_59 : decode cX3_bringText 59 = .ok (.if_icmp .ne 6, 3) := by decide +kernel
theorem dX3_bringText_62 : decode cX3_bringText 62 = .ok (.ldc 55, 2) := by decide +kernel
theorem dX3_bringText_64 : decode cX3_bringText 64 = .ok (.ireturn, 1) := by decide +kernel
theorem dX3_bringText_65 : decode cX3_bringText 65 = .ok (.iload_n 1, 1) := by decide +kernel
theorem dX3_bringText_66 : decode cX3_bringText 66 = .ok (.iload 6, 2) := by decide +kernel
theorem dX3_bringText_68 : decode cX3_bringText 68 = .ok (.ifCond .lt 7, 3) := by decide +kernel
theorem dX3_bringText_71 : decode cX3_bringText 71 = .ok (.iconst 1, 1) := by decide +kernel
theorem dX3_bringText_72 : decode cX3_bringText 72 = .ok (.goto 4, 3) := by decide +kernel
theorem dX3_bringText_75 : decode cX3_bringText 75 = .ok (.iconst 0, 1) := by decide +kernel
theorem dX3_bringText_76 : decode cX3_bringText 76 = .ok (.iadd, 1) := by decide +kernel
theorem dX3_bringText_77 : decode cX3_bringText 77 = .ok (.istore_n 1, 1) := by decide +kernel
theorem dX3_bringText_78 : decode cX3_bringText 78 = .ok (.iconst 0, 1) := by decide +kernel
theorem dX3_bringText_79 : decode cX3_bringText 79 = .ok (.istore_n 2, 1) := by decide +kernel
theorem dX3_bringText_80 : decode cX3_bringText 80 = .ok (.goto 31, 3) := by decide +kernel
theorem dX3_bringText_83 : decode cX3_bringText 83 = .ok (.iload 5, 2) := by decide +kernel
theorem dX3_bringText_85 : decode cX3_bringText 85 = .ok (.bipush 45, 2) := by decide +kernel
theorem dX3_bringText_87 : decode cX3_bringText 87 = .ok (.if_icmp .ne 8, 3) := by decide +kernel
theorem dX3_bringText_90 : decode cX3_bringText 90 = .ok (.iconst 1, 1) := by decide +kernel
theorem dX3_bringText_91 : decode cX3_bringText 91 = .ok (.istore_n 3, 1) := by decide +kernel
theorem dX3_bringText_92 : decode cX3_bringText 92 = .ok (.goto 19, 3) := by decide +kernel
theorem dX3_bringText_95 : decode cX3_bringText 95 = .ok (.iload_n 2, 1) := by decide +kernel
theorem dX3_bringText_96 : decode cX3_bringText 96 = .ok (.iconst 1, 1) := by decide +kernel
theorem dX3_bringText_97 : decode cX3_bringText 97 = .ok (.iconst 2, 1) := by decide +kernel
theorem dX3_bringText_98 : decode cX3_bringText 98 = .ok (.iload 5, 2) := by decide +kernel
theorem dX3_bringText_100 : decode cX3_bringText 100 = .ok (.bipush 97, 2) := by decide +kernel
theorem dX3_bringText_102 : decode cX3_bringText 102 = .ok (.isub, 1) := by decide +kernel
theorem dX3_bringText_103 : decode cX3_bringText 103 = .ok (.imul, 1) := by decide +kernel
theorem dX3_bringText_104 : decode cX3_bringText 104 = .ok (.iload_n 3, 1) := by decide +kernel
theorem dX3_bringText_105 : decode cX3_bringText 105 = .ok (.iadd, 1) := by decide +kernel
theorem dX3_bringText_106 : decode cX3_bringText 106 = .ok (.ishl, 1) := by decide +kernel
theorem dX3_bringText_107 : decode cX3_bringText 107 = .ok (.ior, 1) := by decide +kernel
theorem dX3_bringText_108 : decode cX3_bringText 108 = .ok (.istore_n 2, 1) := by decide +kernel
theorem dX3_bringText_109 : decode cX3_bringText 109 = .ok (.iconst 0, 1) := by decide +kernel
theorem dX3_bringText_110 : decode cX3_bringText 110 = .ok (.istore_n 3, 1) := by decide +kernel
theorem dX3_bringText_111 : decode cX3_bringText 111 = .ok (.iinc 4 1, 3) := by decide +kernel
theorem dX3_bringText_114 : decode cX3_bringText 114 = .ok (.goto (-105), 3) := by decide +kernel
theorem dX3_bringText_117 : decode cX3_bringText 117 = .ok (.iload_n 1, 1) := by decide +kernel
theorem dX3_bringText_118 : decode cX3_bringText 118 = .ok (.ireturn, 1) := by decide +kernel
theorem dX3_foundOrNot_0 : decode cX3_foundOrNot 0 = .ok (.iload_n 0, 1) := by decide +kernel
theorem dX3_foundOrNot_1 : decode cX3_foundOrNot 1 = .ok (.ifCond .ge 8, 3) := by decide +kernel
theorem dX3_foundOrNot_4 : decode cX3_foundOrNot 4 = .ok (.ldc 133, 2) := by decide +kernel
theorem dX3_foundOrNot_6 : decode cX3_foundOrNot 6 = .ok (.goto 4, 3) := by decide +kernel
theorem dX3_foundOrNot_9 : decode cX3_foundOrNot 9 = .ok (.iload_n 0, 1) := by decide +kernel
theorem dX3_foundOrNot_10 : decode cX3_foundOrNot 10 = .ok (.ireturn, 1) := by decide +kernel
theorem dX3_at_0 : decode cX3_at 0 = .ok (.aload_n 0, 1) := by decide +kernel
theorem dX3_at_1 : decode cX3_at 1 = .ok (.ifnull 19, 3) := by decide +kernel
theorem dX3_at_4 : decode cX3_at 4 = .ok (.iload_n 1, 1) := by decide +kernel
theorem dX3_at_5 : decode cX3_at 5 = .ok (.ifCond .lt 15, 3) := by decide +kernel
theorem dX3_at_8 : decode cX3_at 8 = .ok (.iload_n 1, 1) := by decide +kernel
theorem dX3_at_9 : decode cX3_at 9 = .ok (.aload_n 0, 1) := by decide +kernel
theorem dX3_at_10 : decode cX3_at 10 = .ok (.arraylength, 1) := by decide +kernel
theorem dX3_at_11 : decode cX3_at 11 = .ok (.if_icmp .ge 9, 3) := by decide +kernel
theorem dX3_at_14 : decode cX3_at 14 = .ok (.aload_n 0, 1) := by decide +kernel
theorem dX3_at_15 : decode cX3_at 15 = .ok (.iload_n 1, 1) := by decide +kernel
theorem dX3_at_16 : decode cX3_at 16 = .ok (.iaload, 1) := by decide +kernel
theorem dX3_at_17 : decode cX3_at 17 = .ok (.goto 4, 3) := by decide +kernel
theorem dX3_at_20 : decode cX3_at 20 = .ok (.iconst 0, 1) := by decide +kernel
theorem dX3_at_21 : decode cX3_at 21 = .ok (.ireturn, 1) := by decide +kernel
theorem dX3_put_0 : decode cX3_put 0 = .ok (.aload_n 0, 1) := by decide +kernel
theorem dX3_put_1 : decode cX3_put 1 = .ok (.ifnull 17, 3) := by decide +kernel
theorem dX3_put_4 : decode cX3_put 4 = .ok (.iload_n 1, 1) := by decide +kernel
theorem dX3_put_5 : decode cX3_put 5 = .ok (.ifCond .lt 13, 3) := by decide +kernel
theorem dX3_put_8 : decode cX3_put 8 = .ok (.iload_n 1, 1) := by decide +kernel
theorem dX3_put_9 : decode cX3_put 9 = .ok (.aload_n 0, 1) := by decide +kernel
theorem dX3_put_10 : decode cX3_put 10 = .ok (.arraylength, 1) := by decide +kernel
theorem dX3_put_11 : decode cX3_put 11 = .ok (.if_icmp .ge 7, 3) := by decide +kernel
theorem dX3_put_14 : decode cX3_put 14 = .ok (.aload_n 0, 1) := by decide +kernel
theorem dX3_put_15 : decode cX3_put 15 = .ok (.iload_n 1, 1) := by decide +kernel
theorem dX3_put_16 : decode cX3_put 16 = .ok (.iload_n 2, 1) := by decide +kernel
theorem dX3_put_17 : decode cX3_put 17 = .ok (.iastore, 1) := by decide +kernel
theorem dX3_put_18 : decode cX3_put 18 = .ok (.return_, 1) := by decide +kernel
theorem dX3_longAt_0 : decode cX3_longAt 0 = .ok (.aload_n 0, 1) := by decide +kernel
theorem dX3_longAt_1 : decode cX3_longAt 1 = .ok (.ifnull 19, 3) := by decide +kernel
theorem dX3_longAt_4 : decode cX3_longAt 4 = .ok (.iload_n 1, 1) := by decide +kernel
theorem dX3_longAt_5 : decode cX3_longAt 5 = .ok (.ifCond .lt 15, 3) := by decide +kernel
theorem dX3_longAt_8 : decode cX3_longAt 8 = .ok (.iload_n 1, 1) := by decide +kernel
theorem dX3_longAt_9 : decode cX3_longAt 9 = .ok (.aload_n 0, 1) := by decide +kernel
theorem dX3_longAt_10 : decode cX3_longAt 10 = .ok (.arraylength, 1) := by decide +kernel
theorem dX3_longAt_11 : decode cX3_longAt 11 = .ok (.if_icmp .ge 9, 3) := by decide +kernel
theorem dX3_longAt_14 : decode cX3_longAt 14 = .ok (.aload_n 0, 1) := by decide +kernel
theorem dX3_longAt_15 : decode cX3_longAt 15 = .ok (.iload_n 1, 1) := by decide +kernel
theorem dX3_longAt_16 : decode cX3_longAt 16 = .ok (.laload, 1) := by decide +kernel
theorem dX3_longAt_17 : decode cX3_longAt 17 = .ok (.goto 4, 3) := by decide +kernel
theorem dX3_longAt_20 : decode cX3_longAt 20 = .ok (.lconst 0, 1) := by decide +kernel
theorem dX3_longAt_21 : decode cX3_longAt 21 = .ok (.lreturn, 1) := by decide +kernel
theorem dX3_putLong_0 : decode cX3_putLong 0 = .ok (.aload_n 0, 1) := by decide +kernel
theorem dX3_putLong_1 : decode cX3_putLong 1 = .ok (.ifnull 17, 3) := by decide +kernel
theorem dX3_putLong_4 : decode cX3_putLong 4 = .ok (.iload_n 1, 1) := by decide +kernel
theorem dX3_putLong_5 : decode cX3_putLong 5 = .ok (.ifCond .lt 13, 3) := by decide +kernel
theorem dX3_putLong_8 : decode cX3_putLong 8 = .ok (.iload_n 1, 1) := by decide +kernel
theorem dX3_putLong_9 : decode cX3_putLong 9 = .ok (.aload_n 0, 1) := by decide +kernel
theorem dX3_putLong_10 : decode cX3_putLong 10 = .ok (.arraylength, 1) := by decide +kernel
theorem dX3_putLong_11 : decode cX3_putLong 11 = .ok (.if_icmp .ge 7, 3) := by decide +kernel
theorem dX3_putLong_14 : decode cX3_putLong 14 = .ok (.aload_n 0, 1) := by decide +kernel
theorem dX3_putLong_15 : decode cX3_putLong 15 = .ok (.iload_n 1, 1) := by decide +kernel
theorem dX3_putLong_16 : decode cX3_putLong 16 = .ok (.lload_n 2, 1) := by decide +kernel
theorem dX3_putLong_17 : decode cX3_putLong 17 = .ok (.lastore, 1) := by decide +kernel
theorem dX3_putLong_18 : decode cX3_putLong 18 = .ok (.return_, 1) := by decide +kernel
theorem dX3_copyRow_0 : decode cX3_copyRow 0 = .ok (.aload_n 0, 1) := by decide +kernel
theorem dX3_copyRow_1 : decode cX3_copyRow 1 = .ok (.ifnull 21, 3) := by decide +kernel
theorem dX3_copyRow_4 : decode cX3_copyRow 4 = .ok (.aload_n 1, 1) := by decide +kernel
theorem dX3_copyRow_5 : decode cX3_copyRow 5 = .ok (.ifnull 17, 3) := by decide +kernel
theorem dX3_copyRow_8 : decode cX3_copyRow 8 = .ok (.aload_n 0, 1) := by decide +kernel
theorem dX3_copyRow_9 : decode cX3_copyRow 9 = .ok (.iconst 0, 1) := by decide +kernel
theorem dX3_copyRow_10 : decode cX3_copyRow 10 = .ok (.aload_n 1, 1) := by decide +kernel
theorem dX3_copyRow_11 : decode cX3_copyRow 11 = .ok (.iconst 0, 1) := by decide +kernel
theorem dX3_copyRow_12 : decode cX3_copyRow 12 = .ok (.aload_n 0, 1) := by decide +kernel
theorem dX3_copyRow_13 : decode cX3_copyRow 13 = .ok (.arraylength, 1) := by decide +kernel
theorem dX3_copyRow_14 : decode cX3_copyRow 14 = .ok (.aload_n 1, 1) := by decide +kernel
theorem dX3_copyRow_15 : decode cX3_copyRow 15 = .ok (.arraylength, 1) := by decide +kernel
theorem dX3_copyRow_16 : decode cX3_copyRow 16 = .ok (.invokestatic 193, 3) := by decide +kernel
theorem dX3_copyRow_19 : decode cX3_copyRow 19 = .ok (.invokestatic 198, 3) := by decide +kernel
theorem dX3_copyRow_22 : decode cX3_copyRow 22 = .ok (.return_, 1) := by decide +kernel
theorem dX3_copyLongRow_0 : decode cX3_copyLongRow 0 = .ok (.aload_n 0, 1) := by decide +kernel
theorem dX3_copyLongRow_1 : decode cX3_copyLongRow 1 = .ok (.ifnull 21, 3) := by decide +kernel
theorem dX3_copyLongRow_4 : decode cX3_copyLongRow 4 = .ok (.aload_n 1, 1) := by decide +kernel
theorem dX3_copyLongRow_5 : decode cX3_copyLongRow 5 = .ok (.ifnull 17, 3) := by decide +kernel
theorem dX3_copyLongRow_8 : decode cX3_copyLongRow 8 = .ok (.aload_n 0, 1) := by decide +kernel
theorem dX3_copyLongRow_9 : decode cX3_copyLongRow 9 = .ok (.iconst 0, 1) := by decide +kernel
theorem dX3_copyLongRow_10 : decode cX3_copyLongRow 10 = .ok (.aload_n 1, 1) := by decide +kernel
theorem dX3_copyLongRow_11 : decode cX3_copyLongRow 11 = .ok (.iconst 0, 1) := by decide +kernel
theorem dX3_copyLongRow_12 : decode cX3_copyLongRow 12 = .ok (.aload_n 0, 1) := by decide +kernel
theorem dX3_copyLongRow_13 : decode cX3_copyLongRow 13 = .ok (.arraylength, 1) := by decide +kernel
theorem dX3_copyLongRow_14 : decode cX3_copyLongRow 14 = .ok (.aload_n 1, 1) := by decide +kernel
theorem dX3_copyLongRow_15 : decode cX3_copyLongRow 15 = .ok (.arraylength, 1) := by decide +kernel
theorem dX3_copyLongRow_16 : decode cX3_copyLongRow 16 = .ok (.invokestatic 193, 3) := by decide +kernel
theorem dX3_copyLongRow_19 : decode cX3_copyLongRow 19 = .ok (.invokestatic 198, 3) := by decide +kernel
theorem dX3_copyLongRow_22 : decode cX3_copyLongRow 22 = .ok (.return_, 1) := by decide +kernel
theorem dX3_isIn_0 : decode cX3_isIn 0 = .ok (.lload_n 0, 1) := by decide +kernel
theorem dX3_isIn_1 : decode cX3_isIn 1 = .ok (.iload_n 2, 1) := by decide +kernel
theorem dX3_isIn_2 : decode cX3_isIn 2 = .ok (.lushr, 1) := by decide +kernel
theorem dX3_isIn_3 : decode cX3_isIn 3 = .ok (.lconst 1, 1) := by decide +kernel
theorem dX3_isIn_4 : decode cX3_isIn 4 = .ok (.land, 1) := by decide +kernel
theorem dX3_isIn_5 : decode cX3_isIn 5 = .ok (.lconst 0, 1) := by decide +kernel
theorem dX3_isIn_6 : decode cX3_isIn 6 = .ok (.lcmp, 1) := by decide +kernel
theorem dX3_isIn_7 : decode cX3_isIn 7 = .ok (.ifCond .eq 7, 3) := by decide +kernel
theorem dX3_isIn_10 : decode cX3_isIn 10 = .ok (.iconst 1, 1) := by decide +kernel
theorem dX3_isIn_11 : decode cX3_isIn 11 = .ok (.goto 4, 3) := by decide +kernel
theorem dX3_isIn_14 : decode cX3_isIn 14 = .ok (.iconst 0, 1) := by decide +kernel
theorem dX3_isIn_15 : decode cX3_isIn 15 = .ok (.ireturn, 1) := by decide +kernel
theorem dX3_setOf_0 : decode cX3_setOf 0 = .ok (.iload_n 0, 1) := by decide +kernel
theorem dX3_setOf_1 : decode cX3_setOf 1 = .ok (.ifCond .ge 7, 3) := by decide +kernel
theorem dX3_setOf_4 : decode cX3_setOf 4 = .ok (.lconst 0, 1) := by decide +kernel
theorem dX3_setOf_5 : decode cX3_setOf 5 = .ok (.goto 6, 3) := by decide +kernel
theorem dX3_setOf_8 : decode cX3_setOf 8 = .ok (.lconst 1, 1) := by decide +kernel
theorem dX3_setOf_9 : decode cX3_setOf 9 = .ok (.iload_n 0, 1) := by decide +kernel
theorem dX3_setOf_10 : decode cX3_setOf 10 = .ok (.lshl, 1) := by decide +kernel
theorem dX3_setOf_11 : decode cX3_setOf 11 = .ok (.lreturn, 1) := by decide +kernel
theorem dX3_isWithin_0 : decode cX3_isWithin 0 = .ok (.iload_n 0, 1) := by decide +kernel
theorem dX3_isWithin_1 : decode cX3_isWithin 1 = .ok (.iload_n 1, 1) := by decide +kernel
theorem dX3_isWithin_2 : decode cX3_isWithin 2 = .ok (.iconst (-1), 1) := by decide +kernel
theorem dX3_isWithin_3 : decode cX3_isWithin 3 = .ok (.ixor, 1) := by decide +kernel
theorem dX3_isWithin_4 : decode cX3_isWithin 4 = .ok (.iand, 1) := by decide +kernel
theorem dX3_isWithin_5 : decode cX3_isWithin 5 = .ok (.ifCond .ne 7, 3) := by decide +kernel
theorem dX3_isWithin_8 : decode cX3_isWithin 8 = .ok (.iconst 1, 1) := by decide +kernel
theorem dX3_isWithin_9 : decode cX3_isWithin 9 = .ok (.goto 4, 3) := by decide +kernel
theorem dX3_isWithin_12 : decode cX3_isWithin 12 = .ok (.iconst 0, 1) := by decide +kernel
theorem dX3_isWithin_13 : decode cX3_isWithin 13 = .ok (.ireturn, 1) := by decide +kernel
theorem dX3_holdsAlways_0 : decode cX3_holdsAlways 0 = .ok (.iload_n 0, 1) := by decide +kernel
theorem dX3_holdsAlways_1 : decode cX3_holdsAlways 1 = .ok (.iload_n 0, 1) := by decide +kernel
theorem dX3_holdsAlways_2 : decode cX3_holdsAlways 2 = .ok (.iconst 1, 1) := by decide +kernel
theorem dX3_holdsAlways_3 : decode cX3_holdsAlways 3 = .ok (.ishr, 1) := by decide +kernel
theorem dX3_holdsAlways_4 : decode cX3_holdsAlways 4 = .ok (.iand, 1) := by decide +kernel
theorem dX3_holdsAlways_5 : decode cX3_holdsAlways 5 = .ok (.sipush 1365, 3) := by decide +kernel
theorem dX3_holdsAlways_8 : decode cX3_holdsAlways 8 = .ok (.iand, 1) := by decide +kernel
theorem dX3_holdsAlways_9 : decode cX3_holdsAlways 9 = .ok (.ifCond .eq 7, 3) := by decide +kernel
theorem dX3_holdsAlways_12 : decode cX3_holdsAlways 12 = .ok (.iconst 1, 1) := by decide +kernel
theorem dX3_holdsAlways_13 : decode cX3_holdsAlways 13 = .ok (.goto 4, 3) := by decide +kernel
theorem dX3_holdsAlways_16 : decode cX3_holdsAlways 16 = .ok (.iconst 0, 1) := by decide +kernel
theorem dX3_holdsAlways_17 : decode cX3_holdsAlways 17 = .ok (.ireturn, 1) := by decide +kernel
set_option maxRecDepth 20000 in
theorem ggX3_valuesOfClause_X3_longAt : GoodIn wsX3_valuesOfClause wsX3_longAt := goodIn_r _ [6] (by decide +kernel) (by decide +kernel)
set_option maxRecDepth 20000 in
theorem gX3_valuesOfClause_X3_longAt : GoodIn wsX3_valuesOfClause (va_wsS RX3 208 yX3_longAt wsX3_longAt) := goodIn_app (goodIn_of _ (by decide +kernel)) ggX3_valuesOfClause_X3_longAt
theorem dX3_valuesOfClause_0 : decode cX3_valuesOfClause 0 = .ok (.lconst 0, 1) := by decide +kernel
theorem dX3_valuesOfClause_1 : decode cX3_valuesOfClause 1 = .ok (.lstore_n 1, 1) := by decide +kernel
theorem dX3_valuesOfClause_2 : decode cX3_valuesOfClause 2 = .ok (.iconst 0, 1) := by decide +kernel
theorem dX3_valuesOfClause_3 : decode cX3_valuesOfClause 3 = .ok (.istore_n 3, 1) := by decide +kernel
theorem dX3_valuesOfClause_4 : decode cX3_valuesOfClause 4 = .ok (.iload_n 3, 1) := by decide +kernel
theorem dX3_valuesOfClause_5 : decode cX3_valuesOfClause 5 = .ok (.bipush 6, 2) := by decide +kernel
theorem dX3_valuesOfClause_7 : decode cX3_valuesOfClause 7 = .ok (.if_icmp .ge 63, 3) := by decide +kernel
theorem dX3_valuesOfClause_10 : decode cX3_valuesOfClause 10 = .ok (.iload_n 0, 1) := by decide +kernel
theorem dX3_valuesOfClause_11 : decode cX3_valuesOfClause 11 = .ok (.iconst 2, 1) := by decide +kernel
theorem dX3_valuesOfClause_12 : decode cX3_valuesOfClause 12 = .ok (.iload_n 3, 1) := by decide +kernel
theorem dX3_valuesOfClause_13 : decode cX3_valuesOfClause 13 = .ok (.imul, 1) := by decide +kernel
theorem dX3_valuesOfClause_14 : decode cX3_valuesOfClause 14 = .ok (.ishr, 1) := by decide +kernel
theorem dX3_valuesOfClause_15 : decode cX3_valuesOfClause 15 = .ok (.iconst 3, 1) := by decide +kernel
theorem dX3_valuesOfClause_16 : decode cX3_valuesOfClause 16 = .ok (.iand, 1) := by decide +kernel
theorem dX3_valuesOfClause_17 : decode cX3_valuesOfClause 17 = .ok (.istore 4, 2) := by decide +kernel
theorem dX3_valuesOfClause_19 : decode cX3_valuesOfClause 19 = .ok (.getstatic 204, 3) := by decide +kernel
theorem dX3_valuesOfClause_22 : decode cX3_valuesOfClause 22 = .ok (.iload_n 3, 1) := by decide +kernel
theorem dX3_valuesOfClause_23 : decode cX3_valuesOfClause 23 = .ok (.invokestatic 208, 3) := by decide +kernel
theorem dX3_valuesOfClause_26 : decode cX3_valuesOfClause 26 = .ok (.lstore 5, 2) := by decide +kernel
theorem dX3_valuesOfClause_28 : decode cX3_valuesOfClause 28 = .ok (.lload_n 1, 1) := by decide +kernel
theorem dX3_valuesOfClause_29 : decode cX3_valuesOfClause 29 = .ok (.iload 4, 2) := by decide +kernel
theorem dX3_valuesOfClause_31 : decode cX3_valuesOfClause 31 = .ok (.iconst 1, 1) := by decide +kernel
theorem dX3_valuesOfClause_32 : decode cX3_valuesOfClause 32 = .ok (.iand, 1) := by decide +kernel
theorem dX3_valuesOfClause_33 : decode cX3_valuesOfClause 33 = .ok (.ifCond .eq 8, 3) := by decide +kernel
theorem dX3_valuesOfClause_36 : decode cX3_valuesOfClause 36 = .ok (.lload 5, 2) := by decide +kernel
theorem dX3_valuesOfClause_38 : decode cX3_valuesOfClause 38 = .ok (.goto 4, 3) := by decide +kernel
theorem dX3_valuesOfClause_41 : decode cX3_valuesOfClause 41 = .ok (.lconst 0, 1) := by decide +kernel
theorem dX3_valuesOfClause_42 : decode cX3_valuesOfClause 42 = .ok (.lor, 1) := by decide +kernel
theorem dX3_valuesOfClause_43 : decode cX3_valuesOfClause 43 = .ok (.lstore_n 1, 1) := by decide +kernel
theorem dX3_valuesOfClause_44 : decode cX3_valuesOfClause 44 = .ok (.lload_n 1, 1) := by decide +kernel
theorem dX3_valuesOfClause_45 : decode cX3_valuesOfClause 45 = .ok (.iload 4, 2) := by decide +kernel
theorem dX3_valuesOfClause_47 : decode cX3_valuesOfClause 47 = .ok (.iconst 2, 1) := by decide +kernel
theorem dX3_valuesOfClause_48 : decode cX3_valuesOfClause 48 = .ok (.iand, 1) := by decide +kernel
theorem dX3_valuesOfClause_49 : decode cX3_valuesOfClause 49 = .ok (.ifCond .eq 12, 3) := by decide +kernel
theorem dX3_valuesOfClause_52 : decode cX3_valuesOfClause 52 = .ok (.lload 5, 2) := by decide +kernel
theorem dX3_valuesOfClause_54 : decode cX3_valuesOfClause 54 = .ok (.ldc2_w 145, 3) := by decide +kernel
theorem dX3_valuesOfClause_57 : decode cX3_valuesOfClause 57 = .ok (.lxor, 1) := by decide +kernel
theorem dX3_valuesOfClause_58 : decode cX3_valuesOfClause 58 = .ok (.goto 4, 3) := by decide +kernel
theorem dX3_valuesOfClause_61 : decode cX3_valuesOfClause 61 = .ok (.lconst 0, 1) := by decide +kernel
theorem dX3_valuesOfClause_62 : decode cX3_valuesOfClause 62 = .ok (.lor, 1) := by decide +kernel
theorem dX3_valuesOfClause_63 : decode cX3_valuesOfClause 63 = .ok (.lstore_n 1, 1) := by decide +kernel
theorem dX3_valuesOfClause_64 : decode cX3_valuesOfClause 64 = .ok (.iinc 3 1, 3) := by decide +kernel
theorem dX3_valuesOfClause_67 : decode cX3_valuesOfClause 67 = .ok (.goto (-63), 3) := by decide +kernel
theorem dX3_valuesOfClause_70 : decode cX3_valuesOfClause 70 = .ok (.lload_n 1, 1) := by decide +kernel
theorem dX3_valuesOfClause_71 : decode cX3_valuesOfClause 71 = .ok (.lreturn, 1) := by decide +kernel
theorem dX3_floatBitsOf64ths_0 : decode cX3_floatBitsOf64ths 0 = .ok (.iload_n 0, 1) := by decide +kernel
theorem dX3_floatBitsOf64ths_1 : decode cX3_floatBitsOf64ths 1 = .ok (.ifCond .gt 5, 3) := by decide +kernel
theorem dX3_floatBitsOf64ths_4 : decode cX3_floatBitsOf64ths 4 = .ok (.iconst 0, 1) := by decide +kernel
theorem dX3_floatBitsOf64ths_5 : decode cX3_floatBitsOf64ths 5 = .ok (.ireturn, 1) := by decide +kernel
theorem dX3_floatBitsOf64ths_6 : decode cX3_floatBitsOf64ths 6 = .ok (.iconst 0, 1) := by decide +kernel
theorem dX3_floatBitsOf64ths_7 : decode cX3_floatBitsOf64ths 7 = .ok (.istore_n 1, 1) := by decide +kernel
theorem dX3_floatBitsOf64ths_8 : decode cX3_floatBitsOf64ths 8 = .ok (.iconst 1, 1) := by decide +kernel
theorem dX3_floatBitsOf64ths_9 : decode cX3_floatBitsOf64ths 9 = .ok (.istore_n 2, 1) := by decide +kernel
theorem dX3_floatBitsOf64ths_10 : decode cX3_floatBitsOf64ths 10 = .ok (.iload_n 2, 1) := by decide +kernel
theorem dX3_floatBitsOf64ths_11 : decode cX3_floatBitsOf64ths 11 = .ok (.bipush 6, 2) := by decide +kernel
theorem dX3_floatBitsOf64ths_13 : decode cX3_floatBitsOf64ths 13 = .ok (.if_icmp .gt 21, 3) := by decide +kernel
theorem dX3_floatBitsOf64ths_16 : decode cX3_floatBitsOf64ths 16 = .ok (.iload_n 0, 1) := by decide +kernel
theorem dX3_floatBitsOf64ths_17 : decode cX3_floatBitsOf64ths 17 = .ok (.iload_n 2, 1) := by decide +kernel
theorem dX3_floatBitsOf64ths_18 : decode cX3_floatBitsOf64ths 18 = .ok (.ishr, 1) := by decide +kernel
theorem dX3_floatBitsOf64ths_19 : decode cX3_floatBitsOf64ths 19 = .ok (.ifCond .eq 7, 3) := by decide +kernel
theorem dX3_floatBitsOf64ths_22 : decode cX3_floatBitsOf64ths 22 = .ok (.iload_n 2, 1) := by decide +kernel
theorem dX3_floatBitsOf64ths_23 : decode cX3_floatBitsOf64ths 23 = .ok (.goto 4, 3) := by decide +kernel
theorem dX3_floatBitsOf64ths_26 : decode cX3_floatBitsOf64ths 26 = .ok (.iload_n 1, 1) := by decide +kernel
theorem dX3_floatBitsOf64ths_27 : decode cX3_floatBitsOf64ths 27 = .ok (.istore_n 1, 1) := by decide +kernel
theorem dX3_floatBitsOf64ths_28 : decode cX3_floatBitsOf64ths 28 = .ok (.iinc 2 1, 3) := by decide +kernel
theorem dX3_floatBitsOf64ths_31 : decode cX3_floatBitsOf64ths 31 = .ok (.goto (-21), 3) := by decide +kernel
theorem dX3_floatBitsOf64ths_34 : decode cX3_floatBitsOf64ths 34 = .ok (.bipush 127, 2) := by decide +kernel
theorem dX3_floatBitsOf64ths_36 : decode cX3_floatBitsOf64ths 36 = .ok (.iload_n 1, 1) := by decide +kernel
theorem dX3_floatBitsOf64ths_37 : decode cX3_floatBitsOf64ths 37 = .ok (.iadd, 1) := by decide +kernel
theorem dX3_floatBitsOf64ths_38 : decode cX3_floatBitsOf64ths 38 = .ok (.bipush 6, 2) := by decide +kernel
theorem dX3_floatBitsOf64ths_40 : decode cX3_floatBitsOf64ths 40 = .ok (.isub, 1) := by decide +kernel
theorem dX3_floatBitsOf64ths_41 : decode cX3_floatBitsOf64ths 41 = .ok (.istore_n 2, 1) := by decide +kernel
theorem dX3_floatBitsOf64ths_42 : decode cX3_floatBitsOf64ths 42 = .ok (.iload_n 2, 1) := by decide +kernel
theorem dX3_floatBitsOf64ths_43 : decode cX3_floatBitsOf64ths 43 = .ok (.bipush 23, 2) := by decide +kernel
theorem dX3_floatBitsOf64ths_45 : decode cX3_floatBitsOf64ths 45 = .ok (.ishl, 1) := by decide +kernel
theorem dX3_floatBitsOf64ths_46 : decode cX3_floatBitsOf64ths 46 = .ok (.iload_n 0, 1) := by decide +kernel
theorem dX3_floatBitsOf64ths_47 : decode cX3_floatBitsOf64ths 47 = .ok (.bipush 23, 2) := by decide +kernel
theorem dX3_floatBitsOf64ths_49 : decode cX3_floatBitsOf64ths 49 = .ok (.iload_n 1, 1) := by decide +kernel
theorem dX3_floatBitsOf64ths_50 : decode cX3_floatBitsOf64ths 50 = .ok (.isub, 1) := by decide +kernel
theorem dX3_floatBitsOf64ths_51 : decode cX3_floatBitsOf64ths 51 = .ok (.ishl, 1) := by decide +kernel
theorem dX3_floatBitsOf64ths_52 : decode cX3_floatBitsOf64ths 52 = .ok (.ldc 212, 2) := by decide +kernel
theorem dX3_floatBitsOf64ths_54 : decode cX3_floatBitsOf64ths 54 = .ok (.iand, 1) := by decide +kernel
theorem dX3_floatBitsOf64ths_55 : decode cX3_floatBitsOf64ths 55 = .ok (.ior, 1) := by decide +kernel
theorem dX3_floatBitsOf64ths_56 : decode cX3_floatBitsOf64ths 56 = .ok (.ireturn, 1) := by decide +kernel
theorem dJ6_bitCount_0f7a4_0 : decode cJ6_bitCount_0f7a4 0 = .ok (.iload_n 0, 1) := by decide +kernel
theorem dJ6_bitCount_0f7a4_1 : decode cJ6_bitCount_0f7a4 1 = .ok (.iload_n 0, 1) := by decide +kernel
theorem dJ6_bitCount_0f7a4_2 : decode cJ6_bitCount_0f7a4 2 = .ok (.iconst 1, 1) := by decide +kernel
theorem dJ6_bitCount_0f7a4_3 : decode cJ6_bitCount_0f7a4 3 = .ok (.iushr, 1) := by decide +kernel
theorem dJ6_bitCount_0f7a4_4 : decode cJ6_bitCount_0f7a4 4 = .ok (.ldc_w 265, 3) := by decide +kernel
theorem dJ6_bitCount_0f7a4_7 : decode cJ6_bitCount_0f7a4 7 = .ok (.iand, 1) := by decide +kernel
theorem dJ6_bitCount_0f7a4_8 : decode cJ6_bitCount_0f7a4 8 = .ok (.isub, 1) := by decide +kernel
theorem dJ6_bitCount_0f7a4_9 : decode cJ6_bitCount_0f7a4 9 = .ok (.istore_n 0, 1) := by decide +kernel
theorem dJ6_bitCount_0f7a4_10 : decode cJ6_bitCount_0f7a4 10 = .ok (.iload_n 0, 1) := by decide +kernel
theorem dJ6_bitCount_0f7a4_11 : decode cJ6_bitCount_0f7a4 11 = .ok (.ldc_w 266, 3) := by decide +kernel
theorem dJ6_bitCount_0f7a4_14 : decode cJ6_bitCount_0f7a4 14 = .ok (.iand, 1) := by decide +kernel
theorem dJ6_bitCount_0f7a4_15 : decode cJ6_bitCount_0f7a4 15 = .ok (.iload_n 0, 1) := by decide +kernel
theorem dJ6_bitCount_0f7a4_16 : decode cJ6_bitCount_0f7a4 16 = .ok (.iconst 2, 1) := by decide +kernel
theorem dJ6_bitCount_0f7a4_17 : decode cJ6_bitCount_0f7a4 17 = .ok (.iushr, 1) := by decide +kernel
theorem dJ6_bitCount_0f7a4_18 : decode cJ6_bitCount_0f7a4 18 = .ok (.ldc_w 266, 3) := by decide +kernel
theorem dJ6_bitCount_0f7a4_21 : decode cJ6_bitCount_0f7a4 21 = .ok (.iand, 1) := by decide +kernel
theorem dJ6_bitCount_0f7a4_22 : decode cJ6_bitCount_0f7a4 22 = .ok (.iadd, 1) := by decide +kernel
theorem dJ6_bitCount_0f7a4_23 : decode cJ6_bitCount_0f7a4 23 = .ok (.istore_n 0, 1) := by decide +kernel
theorem dJ6_bitCount_0f7a4_24 : decode cJ6_bitCount_0f7a4 24 = .ok (.iload_n 0, 1) := by decide +kernel
theorem dJ6_bitCount_0f7a4_25 : decode cJ6_bitCount_0f7a4 25 = .ok (.iload_n 0, 1) := by decide +kernel
theorem dJ6_bitCount_0f7a4_26 : decode cJ6_bitCount_0f7a4 26 = .ok (.iconst 4, 1) := by decide +kernel
theorem dJ6_bitCount_0f7a4_27 : decode cJ6_bitCount_0f7a4 27 = .ok (.iushr, 1) := by decide +kernel
theorem dJ6_bitCount_0f7a4_28 : decode cJ6_bitCount_0f7a4 28 = .ok (.iadd, 1) := by decide +kernel
theorem dJ6_bitCount_0f7a4_29 : decode cJ6_bitCount_0f7a4 29 = .ok (.ldc_w 267, 3) := by decide +kernel
theorem dJ6_bitCount_0f7a4_32 : decode cJ6_bitCount_0f7a4 32 = .ok (.iand, 1) := by decide +kernel
theorem dJ6_bitCount_0f7a4_33 : decode cJ6_bitCount_0f7a4 33 = .ok (.istore_n 0, 1) := by decide +kernel
theorem dJ6_bitCount_0f7a4_34 : decode cJ6_bitCount_0f7a4 34 = .ok (.iload_n 0, 1) := by decide +kernel
theorem dJ6_bitCount_0f7a4_35 : decode cJ6_bitCount_0f7a4 35 = .ok (.iload_n 0, 1) := by decide +kernel
theorem dJ6_bitCount_0f7a4_36 : decode cJ6_bitCount_0f7a4 36 = .ok (.bipush 8, 2) := by decide +kernel
theorem dJ6_bitCount_0f7a4_38 : decode cJ6_bitCount_0f7a4 38 = .ok (.iushr, 1) := by decide +kernel
theorem dJ6_bitCount_0f7a4_39 : decode cJ6_bitCount_0f7a4 39 = .ok (.iadd, 1) := by decide +kernel
theorem dJ6_bitCount_0f7a4_40 : decode cJ6_bitCount_0f7a4 40 = .ok (.istore_n 0, 1) := by decide +kernel
theorem dJ6_bitCount_0f7a4_41 : decode cJ6_bitCount_0f7a4 41 = .ok (.iload_n 0, 1) := by decide +kernel
theorem dJ6_bitCount_0f7a4_42 : decode cJ6_bitCount_0f7a4 42 = .ok (.iload_n 0, 1) := by decide +kernel
theorem dJ6_bitCount_0f7a4_43 : decode cJ6_bitCount_0f7a4 43 = .ok (.bipush 16, 2) := by decide +kernel
theorem dJ6_bitCount_0f7a4_45 : decode cJ6_bitCount_0f7a4 45 = .ok (.iushr, 1) := by decide +kernel
theorem dJ6_bitCount_0f7a4_46 : decode cJ6_bitCount_0f7a4 46 = .ok (.iadd, 1) := by decide +kernel
theorem dJ6_bitCount_0f7a4_47 : decode cJ6_bitCount_0f7a4 47 = .ok (.istore_n 0, 1) := by decide +kernel
theorem dJ6_bitCount_0f7a4_48 : decode cJ6_bitCount_0f7a4 48 = .ok (.iload_n 0, 1) := by decide +kernel
theorem dJ6_bitCount_0f7a4_49 : decode cJ6_bitCount_0f7a4 49 = .ok (.bipush 63, 2) := by decide +kernel
theorem dJ6_bitCount_0f7a4_51 : decode cJ6_bitCount_0f7a4 51 = .ok (.iand, 1) := by decide +kernel
theorem dJ6_bitCount_0f7a4_52 : decode cJ6_bitCount_0f7a4 52 = .ok (.ireturn, 1) := by decide +kernel
theorem dJ13_bitCount_95d88_0 : decode cJ13_bitCount_95d88 0 = .ok (.lload_n 0, 1) := by decide +kernel
theorem dJ13_bitCount_95d88_1 : decode cJ13_bitCount_95d88 1 = .ok (.lload_n 0, 1) := by decide +kernel
theorem dJ13_bitCount_95d88_2 : decode cJ13_bitCount_95d88 2 = .ok (.iconst 1, 1) := by decide +kernel
theorem dJ13_bitCount_95d88_3 : decode cJ13_bitCount_95d88 3 = .ok (.lushr, 1) := by decide +kernel
theorem dJ13_bitCount_95d88_4 : decode cJ13_bitCount_95d88 4 = .ok (.ldc2_w 314, 3) := by decide +kernel
theorem dJ13_bitCount_95d88_7 : decode cJ13_bitCount_95d88 7 = .ok (.land, 1) := by decide +kernel
theorem dJ13_bitCount_95d88_8 : decode cJ13_bitCount_95d88 8 = .ok (.lsub, 1) := by decide +kernel
theorem dJ13_bitCount_95d88_9 : decode cJ13_bitCount_95d88 9 = .ok (.lstore_n 0, 1) := by decide +kernel
theorem dJ13_bitCount_95d88_10 : decode cJ13_bitCount_95d88 10 = .ok (.lload_n 0, 1) := by decide +kernel
theorem dJ13_bitCount_95d88_11 : decode cJ13_bitCount_95d88 11 = .ok (.ldc2_w 316, 3) := by decide +kernel
theorem dJ13_bitCount_95d88_14 : decode cJ13_bitCount_95d88 14 = .ok (.land, 1) := by decide +kernel
theorem dJ13_bitCount_95d88_15 : decode cJ13_bitCount_95d88 15 = .ok (.lload_n 0, 1) := by decide +kernel
theorem dJ13_bitCount_95d88_16 : decode cJ13_bitCount_95d88 16 = .ok (.iconst 2, 1) := by decide +kernel
theorem dJ13_bitCount_95d88_17 : decode cJ13_bitCount_95d88 17 = .ok (.lushr, 1) := by decide +kernel
theorem dJ13_bitCount_95d88_18 : decode cJ13_bitCount_95d88 18 = .ok (.ldc2_w 316, 3) := by decide +kernel
theorem dJ13_bitCount_95d88_21 : decode cJ13_bitCount_95d88 21 = .ok (.land, 1) := by decide +kernel
theorem dJ13_bitCount_95d88_22 : decode cJ13_bitCount_95d88 22 = .ok (.ladd, 1) := by decide +kernel
theorem dJ13_bitCount_95d88_23 : decode cJ13_bitCount_95d88 23 = .ok (.lstore_n 0, 1) := by decide +kernel
theorem dJ13_bitCount_95d88_24 : decode cJ13_bitCount_95d88 24 = .ok (.lload_n 0, 1) := by decide +kernel
theorem dJ13_bitCount_95d88_25 : decode cJ13_bitCount_95d88 25 = .ok (.lload_n 0, 1) := by decide +kernel
theorem dJ13_bitCount_95d88_26 : decode cJ13_bitCount_95d88 26 = .ok (.iconst 4, 1) := by decide +kernel
theorem dJ13_bitCount_95d88_27 : decode cJ13_bitCount_95d88 27 = .ok (.lushr, 1) := by decide +kernel
theorem dJ13_bitCount_95d88_28 : decode cJ13_bitCount_95d88 28 = .ok (.ladd, 1) := by decide +kernel
theorem dJ13_bitCount_95d88_29 : decode cJ13_bitCount_95d88 29 = .ok (.ldc2_w 318, 3) := by decide +kernel
theorem dJ13_bitCount_95d88_32 : decode cJ13_bitCount_95d88 32 = .ok (.land, 1) := by decide +kernel
theorem dJ13_bitCount_95d88_33 : decode cJ13_bitCount_95d88 33 = .ok (.lstore_n 0, 1) := by decide +kernel
theorem dJ13_bitCount_95d88_34 : decode cJ13_bitCount_95d88 34 = .ok (.lload_n 0, 1) := by decide +kernel
theorem dJ13_bitCount_95d88_35 : decode cJ13_bitCount_95d88 35 = .ok (.lload_n 0, 1) := by decide +kernel
theorem dJ13_bitCount_95d88_36 : decode cJ13_bitCount_95d88 36 = .ok (.bipush 8, 2) := by decide +kernel
theorem dJ13_bitCount_95d88_38 : decode cJ13_bitCount_95d88 38 = .ok (.lushr, 1) := by decide +kernel
theorem dJ13_bitCount_95d88_39 : decode cJ13_bitCount_95d88 39 = .ok (.ladd, 1) := by decide +kernel
theorem dJ13_bitCount_95d88_40 : decode cJ13_bitCount_95d88 40 = .ok (.lstore_n 0, 1) := by decide +kernel
theorem dJ13_bitCount_95d88_41 : decode cJ13_bitCount_95d88 41 = .ok (.lload_n 0, 1) := by decide +kernel
theorem dJ13_bitCount_95d88_42 : decode cJ13_bitCount_95d88 42 = .ok (.lload_n 0, 1) := by decide +kernel
theorem dJ13_bitCount_95d88_43 : decode cJ13_bitCount_95d88 43 = .ok (.bipush 16, 2) := by decide +kernel
theorem dJ13_bitCount_95d88_45 : decode cJ13_bitCount_95d88 45 = .ok (.lushr, 1) := by decide +kernel
theorem dJ13_bitCount_95d88_46 : decode cJ13_bitCount_95d88 46 = .ok (.ladd, 1) := by decide +kernel
theorem dJ13_bitCount_95d88_47 : decode cJ13_bitCount_95d88 47 = .ok (.lstore_n 0, 1) := by decide +kernel
theorem dJ13_bitCount_95d88_48 : decode cJ13_bitCount_95d88 48 = .ok (.lload_n 0, 1) := by decide +kernel
theorem dJ13_bitCount_95d88_49 : decode cJ13_bitCount_95d88 49 = .ok (.lload_n 0, 1) := by decide +kernel
theorem dJ13_bitCount_95d88_50 : decode cJ13_bitCount_95d88 50 = .ok (.bipush 32, 2) := by decide +kernel
theorem dJ13_bitCount_95d88_52 : decode cJ13_bitCount_95d88 52 = .ok (.lushr, 1) := by decide +kernel
theorem dJ13_bitCount_95d88_53 : decode cJ13_bitCount_95d88 53 = .ok (.ladd, 1) := by decide +kernel
theorem dJ13_bitCount_95d88_54 : decode cJ13_bitCount_95d88 54 = .ok (.lstore_n 0, 1) := by decide +kernel
theorem dJ13_bitCount_95d88_55 : decode cJ13_bitCount_95d88 55 = .ok (.lload_n 0, 1) := by decide +kernel
theorem dJ13_bitCount_95d88_56 : decode cJ13_bitCount_95d88 56 = .ok (.l2i, 1) := by decide +kernel
theorem dJ13_bitCount_95d88_57 : decode cJ13_bitCount_95d88 57 = .ok (.bipush 127, 2) := by decide +kernel
theorem dJ13_bitCount_95d88_59 : decode cJ13_bitCount_95d88 59 = .ok (.iand, 1) := by decide +kernel
theorem dJ13_bitCount_95d88_60 : decode cJ13_bitCount_95d88 60 = .ok (.ireturn, 1) := by decide +kernel
theorem dJ9_max_7cf53_0 : decode cJ9_max_7cf53 0 = .ok (.iload_n 0, 1) := by decide +kernel

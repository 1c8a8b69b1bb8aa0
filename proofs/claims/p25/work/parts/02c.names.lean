theorem dX1_resolveWithDone_55 : decode cX1_resolveWithDone 55 = .ok (.iload_n 1, 1) := by decide +kernel
theorem dX1_resolveWithDone_56 : decode cX1_resolveWithDone 56 = .ok (.invokevirtual 80, 3) := by decide +kernel
theorem dX1_resolveWithDone_59 : decode cX1_resolveWithDone 59 = .ok (.ifCond .ne 106, 3) := by decide +kernel
theorem dX1_resolveWithDone_62 : decode cX1_resolveWithDone 62 = .ok (.aload_n 0, 1) := by decide +kernel
theorem dX1_resolveWithDone_63 : decode cX1_resolveWithDone 63 = .ok (.getfield 18, 3) := by decide +kernel
theorem dX1_resolveWithDone_66 : decode cX1_resolveWithDone 66 = .ok (.iload 7, 2) := by decide +kernel
theorem dX1_resolveWithDone_68 : decode cX1_resolveWithDone 68 = .ok (.invokestatic 65, 3) := by decide +kernel
theorem dX1_resolveWithDone_71 : decode cX1_resolveWithDone 71 = .ok (.iconst 1, 1) := by decide +kernel
theorem dX1_resolveWithDone_72 : decode cX1_resolveWithDone 72 = .ok (.if_icmp .ne 87, 3) := by decide +kernel
theorem dX1_resolveWithDone_75 : decode cX1_resolveWithDone 75 = .ok (.aload_n 0, 1) := by decide +kernel
theorem dX1_resolveWithDone_76 : decode cX1_resolveWithDone 76 = .ok (.aload_n 0, 1) := by decide +kernel
theorem dX1_resolveWithDone_77 : decode cX1_resolveWithDone 77 = .ok (.getfield 15, 3) := by decide +kernel
theorem dX1_resolveWithDone_80 : decode cX1_resolveWithDone 80 = .ok (.iload 7, 2) := by decide +kernel
theorem dX1_resolveWithDone_82 : decode cX1_resolveWithDone 82 = .ok (.invokestatic 65, 3) := by decide +kernel
theorem dX1_resolveWithDone_85 : decode cX1_resolveWithDone 85 = .ok (.invokevirtual 73, 3) := by decide +kernel
theorem dX1_resolveWithDone_88 : decode cX1_resolveWithDone 88 = .ok (.iload_n 3, 1) := by decide +kernel
theorem dX1_resolveWithDone_89 : decode cX1_resolveWithDone 89 = .ok (.if_icmp .ne 70, 3) := by decide +kernel
theorem dX1_resolveWithDone_92 : decode cX1_resolveWithDone 92 = .ok (.aload_n 0, 1) := by decide +kernel
theorem dX1_resolveWithDone_93 : decode cX1_resolveWithDone 93 = .ok (.getfield 15, 3) := by decide +kernel
theorem dX1_resolveWithDone_96 : decode cX1_resolveWithDone 96 = .ok (.iload_n 1, 1) := by decide +kernel
theorem dX1_resolveWithDone_97 : decode cX1_resolveWithDone 97 = .ok (.invokestatic 65, 3) := by decide +kernel
theorem dX1_resolveWithDone_100 : decode cX1_resolveWithDone 100 = .ok (.aload_n 0, 1) := by decide +kernel
theorem dX1_resolveWithDone_101 : decode cX1_resolveWithDone 101 = .ok (.getfield 15, 3) := by decide +kernel
theorem dX1_resolveWithDone_104 : decode cX1_resolveWithDone 104 = .ok (.iload 7, 2) := by decide +kernel
theorem dX1_resolveWithDone_106 : decode cX1_resolveWithDone 106 = .ok (.invokestatic 65, 3) := by decide +kernel
theorem dX1_resolveWithDone_109 : decode cX1_resolveWithDone 109 = .ok (.ior, 1) := by decide +kernel
theorem dX1_resolveWithDone_110 : decode cX1_resolveWithDone 110 = .ok (.iload 5, 2) := by decide +kernel
theorem dX1_resolveWithDone_112 : decode cX1_resolveWithDone 112 = .ok (.iconst (-1), 1) := by decide +kernel
theorem dX1_resolveWithDone_113 : decode cX1_resolveWithDone 113 = .ok (.ixor, 1) := by decide +kernel
theorem dX1_resolveWithDone_114 : decode cX1_resolveWithDone 114 = .ok (.iand, 1) := by decide +kernel
theorem dX1_resolveWithDone_115 : decode cX1_resolveWithDone 115 = .ok (.istore 8, 2) := by decide +kernel
theorem dX1_resolveWithDone_117 : decode cX1_resolveWithDone 117 = .ok (.aload_n 0, 1) := by decide +kernel
theorem dX1_resolveWithDone_118 : decode cX1_resolveWithDone 118 = .ok (.iload 8, 2) := by decide +kernel
theorem dX1_resolveWithDone_120 : decode cX1_resolveWithDone 120 = .ok (.iload 4, 2) := by decide +kernel
theorem dX1_resolveWithDone_122 : decode cX1_resolveWithDone 122 = .ok (.ifCond .eq 7, 3) := by decide +kernel
theorem dX1_resolveWithDone_125 : decode cX1_resolveWithDone 125 = .ok (.iload_n 1, 1) := by decide +kernel
theorem dX1_resolveWithDone_126 : decode cX1_resolveWithDone 126 = .ok (.goto 5, 3) := by decide +kernel
theorem dX1_resolveWithDone_129 : decode cX1_resolveWithDone 129 = .ok (.iload 7, 2) := by decide +kernel
theorem dX1_resolveWithDone_131 : decode cX1_resolveWithDone 131 = .ok (.iload 4, 2) := by decide +kernel
theorem dX1_resolveWithDone_133 : decode cX1_resolveWithDone 133 = .ok (.ifCond .eq 8, 3) := by decide +kernel
theorem dX1_resolveWithDone_136 : decode cX1_resolveWithDone 136 = .ok (.iload 7, 2) := by decide +kernel
theorem dX1_resolveWithDone_138 : decode cX1_resolveWithDone 138 = .ok (.goto 4, 3) := by decide +kernel
theorem dX1_resolveWithDone_141 : decode cX1_resolveWithDone 141 = .ok (.iload_n 1, 1) := by decide +kernel
theorem dX1_resolveWithDone_142 : decode cX1_resolveWithDone 142 = .ok (.iload_n 2, 1) := by decide +kernel
theorem dX1_resolveWithDone_143 : decode cX1_resolveWithDone 143 = .ok (.iconst 1, 1) := by decide +kernel
theorem dX1_resolveWithDone_144 : decode cX1_resolveWithDone 144 = .ok (.ishr, 1) := by decide +kernel
theorem dX1_resolveWithDone_145 : decode cX1_resolveWithDone 145 = .ok (.invokevirtual 136, 3) := by decide +kernel
theorem dX1_resolveWithDone_148 : decode cX1_resolveWithDone 148 = .ok (.istore 9, 2) := by decide +kernel
theorem dX1_resolveWithDone_150 : decode cX1_resolveWithDone 150 = .ok (.iload 9, 2) := by decide +kernel
theorem dX1_resolveWithDone_152 : decode cX1_resolveWithDone 152 = .ok (.ldc 94, 2) := by decide +kernel
theorem dX1_resolveWithDone_154 : decode cX1_resolveWithDone 154 = .ok (.if_icmp .ne 5, 3) := by decide +kernel
theorem dX1_resolveWithDone_157 : decode cX1_resolveWithDone 157 = .ok (.iconst 0, 1) := by decide +kernel
theorem dX1_resolveWithDone_158 : decode cX1_resolveWithDone 158 = .ok (.ireturn, 1) := by decide +kernel
theorem dX1_resolveWithDone_159 : decode cX1_resolveWithDone 159 = .ok (.iinc 7 1, 3) := by decide +kernel
theorem dX1_resolveWithDone_162 : decode cX1_resolveWithDone 162 = .ok (.goto (-115), 3) := by decide +kernel
theorem dX1_resolveWithDone_165 : decode cX1_resolveWithDone 165 = .ok (.iconst 1, 1) := by decide +kernel
theorem dX1_resolveWithDone_166 : decode cX1_resolveWithDone 166 = .ok (.ireturn, 1) := by decide +kernel
set_option maxRecDepth 20000 in
theorem ggX1_treeOf_X3_setOf : GoodIn wsX1_treeOf wsX3_setOf := goodIn_r _ [5] (by decide +kernel) (by decide +kernel)
set_option maxRecDepth 20000 in
theorem gX1_treeOf_X3_setOf_n139 : GoodIn wsX1_treeOf (wsX3_setOf) := ggX1_treeOf_X3_setOf
set_option maxRecDepth 20000 in
theorem ggX1_treeOf_X3_isIn : GoodIn wsX1_treeOf wsX3_isIn := goodIn_r _ [7] (by decide +kernel) (by decide +kernel)
set_option maxRecDepth 20000 in
theorem gX1_treeOf_X3_isIn_n76 : GoodIn wsX1_treeOf (wsX3_isIn) := ggX1_treeOf_X3_isIn
set_option maxRecDepth 20000 in
theorem ggX1_treeOf_X3_at : GoodIn wsX1_treeOf wsX3_at := goodIn_r _ [9] (by decide +kernel) (by decide +kernel)
set_option maxRecDepth 20000 in
theorem gX1_treeOf_X3_at_n65 : GoodIn wsX1_treeOf (wsX3_at) := ggX1_treeOf_X3_at
theorem dX1_treeOf_0 : decode cX1_treeOf 0 = .ok (.iload_n 1, 1) := by decide +kernel
theorem dX1_treeOf_1 : decode cX1_treeOf 1 = .ok (.invokestatic 139, 3) := by decide +kernel
theorem dX1_treeOf_4 : decode cX1_treeOf 4 = .ok (.lstore_n 2, 1) := by decide +kernel
theorem dX1_treeOf_5 : decode cX1_treeOf 5 = .ok (.iload_n 1, 1) := by decide +kernel
theorem dX1_treeOf_6 : decode cX1_treeOf 6 = .ok (.istore 4, 2) := by decide +kernel
theorem dX1_treeOf_8 : decode cX1_treeOf 8 = .ok (.iload 4, 2) := by decide +kernel
theorem dX1_treeOf_10 : decode cX1_treeOf 10 = .ok (.ifCond .lt 46, 3) := by decide +kernel
theorem dX1_treeOf_13 : decode cX1_treeOf 13 = .ok (.lload_n 2, 1) := by decide +kernel
theorem dX1_treeOf_14 : decode cX1_treeOf 14 = .ok (.iload 4, 2) := by decide +kernel
theorem dX1_treeOf_16 : decode cX1_treeOf 16 = .ok (.invokestatic 76, 3) := by decide +kernel
theorem dX1_treeOf_19 : decode cX1_treeOf 19 = .ok (.ifCond .eq 31, 3) := by decide +kernel
theorem dX1_treeOf_22 : decode cX1_treeOf 22 = .ok (.lload_n 2, 1) := by decide +kernel
theorem dX1_treeOf_23 : decode cX1_treeOf 23 = .ok (.aload_n 0, 1) := by decide +kernel
theorem dX1_treeOf_24 : decode cX1_treeOf 24 = .ok (.getfield 21, 3) := by decide +kernel
theorem dX1_treeOf_27 : decode cX1_treeOf 27 = .ok (.iload 4, 2) := by decide +kernel
theorem dX1_treeOf_29 : decode cX1_treeOf 29 = .ok (.invokestatic 65, 3) := by decide +kernel
theorem dX1_treeOf_32 : decode cX1_treeOf 32 = .ok (.invokestatic 139, 3) := by decide +kernel
theorem dX1_treeOf_35 : decode cX1_treeOf 35 = .ok (.aload_n 0, 1) := by decide +kernel
theorem dX1_treeOf_36 : decode cX1_treeOf 36 = .ok (.getfield 24, 3) := by decide +kernel
theorem dX1_treeOf_39 : decode cX1_treeOf 39 = .ok (.iload 4, 2) := by decide +kernel
theorem dX1_treeOf_41 : decode cX1_treeOf 41 = .ok (.invokestatic 65, 3) := by decide +kernel
theorem dX1_treeOf_44 : decode cX1_treeOf 44 = .ok (.invokestatic 139, 3) := by decide +kernel
theorem dX1_treeOf_47 : decode cX1_treeOf 47 = .ok (.lor, 1) := by decide +kernel
theorem dX1_treeOf_48 : decode cX1_treeOf 48 = .ok (.lor, 1) := by decide +kernel
theorem dX1_treeOf_49 : decode cX1_treeOf 49 = .ok (.lstore_n 2, 1) := by decide +kernel
theorem dX1_treeOf_50 : decode cX1_treeOf 50 = .ok (.iinc 4 (-1), 3) := by decide +kernel
theorem dX1_treeOf_53 : decode cX1_treeOf 53 = .ok (.goto (-45), 3) := by decide +kernel
theorem dX1_treeOf_56 : decode cX1_treeOf 56 = .ok (.lload_n 2, 1) := by decide +kernel
theorem dX1_treeOf_57 : decode cX1_treeOf 57 = .ok (.lreturn, 1) := by decide +kernel
set_option maxRecDepth 20000 in
theorem ggX1_toldClauses_X1_wasTold : GoodIn wsX1_toldClauses wsX1_wasTold := goodIn_r _ [6, 7, 8, 9, 10, 13, 14, 15, 16, 17, 18, 19, 20, 21, 22, 23, 24, 25] (by decide +kernel) (by decide +kernel)
set_option maxRecDepth 20000 in
theorem gX1_toldClauses_X1_wasTold : GoodIn wsX1_toldClauses (wsV RX1 142 RX1 yX1_wasTold wsX1_wasTold) := goodIn_app (goodIn_of _ (by decide +kernel)) ggX1_toldClauses_X1_wasTold
set_option maxRecDepth 20000 in
theorem ggX1_toldClauses_X3_setOf : GoodIn wsX1_toldClauses wsX3_setOf := goodIn_r _ [12] (by decide +kernel) (by decide +kernel)
set_option maxRecDepth 20000 in
theorem gX1_toldClauses_X3_setOf_n139 : GoodIn wsX1_toldClauses (wsX3_setOf) := ggX1_toldClauses_X3_setOf
theorem dX1_toldClauses_0 : decode cX1_toldClauses 0 = .ok (.lconst 0, 1) := by decide +kernel
theorem dX1_toldClauses_1 : decode cX1_toldClauses 1 = .ok (.lstore_n 1, 1) := by decide +kernel
theorem dX1_toldClauses_2 : decode cX1_toldClauses 2 = .ok (.iconst 0, 1) := by decide +kernel
theorem dX1_toldClauses_3 : decode cX1_toldClauses 3 = .ok (.istore_n 3, 1) := by decide +kernel
theorem dX1_toldClauses_4 : decode cX1_toldClauses 4 = .ok (.iload_n 3, 1) := by decide +kernel
theorem dX1_toldClauses_5 : decode cX1_toldClauses 5 = .ok (.aload_n 0, 1) := by decide +kernel
theorem dX1_toldClauses_6 : decode cX1_toldClauses 6 = .ok (.getfield 37, 3) := by decide +kernel
theorem dX1_toldClauses_9 : decode cX1_toldClauses 9 = .ok (.if_icmp .ge 28, 3) := by decide +kernel
theorem dX1_toldClauses_12 : decode cX1_toldClauses 12 = .ok (.lload_n 1, 1) := by decide +kernel
theorem dX1_toldClauses_13 : decode cX1_toldClauses 13 = .ok (.aload_n 0, 1) := by decide +kernel
theorem dX1_toldClauses_14 : decode cX1_toldClauses 14 = .ok (.iload_n 3, 1) := by decide +kernel
theorem dX1_toldClauses_15 : decode cX1_toldClauses 15 = .ok (.invokevirtual 142, 3) := by decide +kernel
theorem dX1_toldClauses_18 : decode cX1_toldClauses 18 = .ok (.ifCond .eq 10, 3) := by decide +kernel
theorem dX1_toldClauses_21 : decode cX1_toldClauses 21 = .ok (.iload_n 3, 1) := by decide +kernel
theorem dX1_toldClauses_22 : decode cX1_toldClauses 22 = .ok (.invokestatic 139, 3) := by decide +kernel
theorem dX1_toldClauses_25 : decode cX1_toldClauses 25 = .ok (.goto 4, 3) := by decide +kernel
theorem dX1_toldClauses_28 : decode cX1_toldClauses 28 = .ok (.lconst 0, 1) := by decide +kernel
theorem dX1_toldClauses_29 : decode cX1_toldClauses 29 = .ok (.lor, 1) := by decide +kernel
theorem dX1_toldClauses_30 : decode cX1_toldClauses 30 = .ok (.lstore_n 1, 1) := by decide +kernel
theorem dX1_toldClauses_31 : decode cX1_toldClauses 31 = .ok (.iinc 3 1, 3) := by decide +kernel
theorem dX1_toldClauses_34 : decode cX1_toldClauses 34 = .ok (.goto (-30), 3) := by decide +kernel
theorem dX1_toldClauses_37 : decode cX1_toldClauses 37 = .ok (.lload_n 1, 1) := by decide +kernel
theorem dX1_toldClauses_38 : decode cX1_toldClauses 38 = .ok (.lreturn, 1) := by decide +kernel
set_option maxRecDepth 20000 in
theorem ggX1_valuesFulfilling_X3_isIn : GoodIn wsX1_valuesFulfilling wsX3_isIn := goodIn_r _ [6] (by decide +kernel) (by decide +kernel)
set_option maxRecDepth 20000 in
theorem gX1_valuesFulfilling_X3_isIn_n76 : GoodIn wsX1_valuesFulfilling (wsX3_isIn) := ggX1_valuesFulfilling_X3_isIn
set_option maxRecDepth 20000 in
theorem ggX1_valuesFulfilling_X3_longAt : GoodIn wsX1_valuesFulfilling wsX3_longAt := goodIn_r _ [8] (by decide +kernel) (by decide +kernel)
set_option maxRecDepth 20000 in
theorem gX1_valuesFulfilling_X3_longAt_n147 : GoodIn wsX1_valuesFulfilling (wsX3_longAt) := ggX1_valuesFulfilling_X3_longAt
theorem dX1_valuesFulfilling_0 : decode cX1_valuesFulfilling 0 = .ok (.ldc2_w 145, 3) := by decide +kernel
theorem dX1_valuesFulfilling_3 : decode cX1_valuesFulfilling 3 = .ok (.lstore_n 3, 1) := by decide +kernel
theorem dX1_valuesFulfilling_4 : decode cX1_valuesFulfilling 4 = .ok (.iconst 0, 1) := by decide +kernel
theorem dX1_valuesFulfilling_5 : decode cX1_valuesFulfilling 5 = .ok (.istore 5, 2) := by decide +kernel
theorem dX1_valuesFulfilling_7 : decode cX1_valuesFulfilling 7 = .ok (.iload 5, 2) := by decide +kernel
theorem dX1_valuesFulfilling_9 : decode cX1_valuesFulfilling 9 = .ok (.aload_n 0, 1) := by decide +kernel
theorem dX1_valuesFulfilling_10 : decode cX1_valuesFulfilling 10 = .ok (.getfield 37, 3) := by decide +kernel
theorem dX1_valuesFulfilling_13 : decode cX1_valuesFulfilling 13 = .ok (.if_icmp .ge 36, 3) := by decide +kernel
theorem dX1_valuesFulfilling_16 : decode cX1_valuesFulfilling 16 = .ok (.lload_n 3, 1) := by decide +kernel
theorem dX1_valuesFulfilling_17 : decode cX1_valuesFulfilling 17 = .ok (.lconst 0, 1) := by decide +kernel
theorem dX1_valuesFulfilling_18 : decode cX1_valuesFulfilling 18 = .ok (.lcmp, 1) := by decide +kernel
theorem dX1_valuesFulfilling_19 : decode cX1_valuesFulfilling 19 = .ok (.ifCond .eq 30, 3) := by decide +kernel
theorem dX1_valuesFulfilling_22 : decode cX1_valuesFulfilling 22 = .ok (.lload_n 1, 1) := by decide +kernel
theorem dX1_valuesFulfilling_23 : decode cX1_valuesFulfilling 23 = .ok (.iload 5, 2) := by decide +kernel
theorem dX1_valuesFulfilling_25 : decode cX1_valuesFulfilling 25 = .ok (.invokestatic 76, 3) := by decide +kernel
theorem dX1_valuesFulfilling_28 : decode cX1_valuesFulfilling 28 = .ok (.ifCond .eq 15, 3) := by decide +kernel
theorem dX1_valuesFulfilling_31 : decode cX1_valuesFulfilling 31 = .ok (.lload_n 3, 1) := by decide +kernel
theorem dX1_valuesFulfilling_32 : decode cX1_valuesFulfilling 32 = .ok (.aload_n 0, 1) := by decide +kernel
theorem dX1_valuesFulfilling_33 : decode cX1_valuesFulfilling 33 = .ok (.getfield 33, 3) := by decide +kernel
theorem dX1_valuesFulfilling_36 : decode cX1_valuesFulfilling 36 = .ok (.iload 5, 2) := by decide +kernel
theorem dX1_valuesFulfilling_38 : decode cX1_valuesFulfilling 38 = .ok (.invokestatic 147, 3) := by decide +kernel
theorem dX1_valuesFulfilling_41 : decode cX1_valuesFulfilling 41 = .ok (.land, 1) := by decide +kernel
theorem dX1_valuesFulfilling_42 : decode cX1_valuesFulfilling 42 = .ok (.lstore_n 3, 1) := by decide +kernel
theorem dX1_valuesFulfilling_43 : decode cX1_valuesFulfilling 43 = .ok (.iinc 5 1, 3) := by decide +kernel
theorem dX1_valuesFulfilling_46 : decode cX1_valuesFulfilling 46 = .ok (.goto (-39), 3) := by decide +kernel
theorem dX1_valuesFulfilling_49 : decode cX1_valuesFulfilling 49 = .ok (.lload_n 3, 1) := by decide +kernel
theorem dX1_valuesFulfilling_50 : decode cX1_valuesFulfilling 50 = .ok (.lreturn, 1) := by decide +kernel
set_option maxRecDepth 20000 in
theorem ggX1_fewestUnfulfillable_X3_setOf : GoodIn wsX1_fewestUnfulfillable wsX3_setOf := goodIn_r _ [5] (by decide +kernel) (by decide +kernel)
set_option maxRecDepth 20000 in
theorem gX1_fewestUnfulfillable_X3_setOf_n139 : GoodIn wsX1_fewestUnfulfillable (wsX3_setOf) := ggX1_fewestUnfulfillable_X3_setOf
set_option maxRecDepth 20000 in
theorem ggX1_fewestUnfulfillable_X1_valuesFulfilling : GoodIn wsX1_fewestUnfulfillable wsX1_valuesFulfilling := goodIn_r _ [10, 2, 1, 11, 12, 4, 13, 14, 15, 16, 17, 18, 19, 20, 21, 22, 23, 24, 25, 26, 27, 28] (by decide +kernel) (by decide +kernel)
set_option maxRecDepth 20000 in
theorem gX1_fewestUnfulfillable_X1_valuesFulfilling : GoodIn wsX1_fewestUnfulfillable (wsV RX1 151 RX1 yX1_valuesFulfilling wsX1_valuesFulfilling) := goodIn_app (goodIn_of _ (by decide +kernel)) ggX1_fewestUnfulfillable_X1_valuesFulfilling
theorem dX1_fewestUnfulfillable_0 : decode cX1_fewestUnfulfillable 0 = .ok (.lload_n 1, 1) := by decide +kernel
theorem dX1_fewestUnfulfillable_1 : decode cX1_fewestUnfulfillable 1 = .ok (.lstore_n 3, 1) := by decide +kernel
theorem dX1_fewestUnfulfillable_2 : decode cX1_fewestUnfulfillable 2 = .ok (.iconst 0, 1) := by decide +kernel
theorem dX1_fewestUnfulfillable_3 : decode cX1_fewestUnfulfillable 3 = .ok (.istore 5, 2) := by decide +kernel
theorem dX1_fewestUnfulfillable_5 : decode cX1_fewestUnfulfillable 5 = .ok (.iload 5, 2) := by decide +kernel
theorem dX1_fewestUnfulfillable_7 : decode cX1_fewestUnfulfillable 7 = .ok (.aload_n 0, 1) := by decide +kernel
theorem dX1_fewestUnfulfillable_8 : decode cX1_fewestUnfulfillable 8 = .ok (.getfield 37, 3) := by decide +kernel
theorem dX1_fewestUnfulfillable_11 : decode cX1_fewestUnfulfillable 11 = .ok (.if_icmp .ge 36, 3) := by decide +kernel
theorem dX1_fewestUnfulfillable_14 : decode cX1_fewestUnfulfillable 14 = .ok (.lload_n 3, 1) := by decide +kernel
theorem dX1_fewestUnfulfillable_15 : decode cX1_fewestUnfulfillable 15 = .ok (.iload 5, 2) := by decide +kernel
theorem dX1_fewestUnfulfillable_17 : decode cX1_fewestUnfulfillable 17 = .ok (.invokestatic 139, 3) := by decide +kernel
theorem dX1_fewestUnfulfillable_20 : decode cX1_fewestUnfulfillable 20 = .ok (.ldc2_w 145, 3) := by decide +kernel
theorem dX1_fewestUnfulfillable_23 : decode cX1_fewestUnfulfillable 23 = .ok (.lxor, 1) := by decide +kernel
theorem dX1_fewestUnfulfillable_24 : decode cX1_fewestUnfulfillable 24 = .ok (.land, 1) := by decide +kernel
theorem dX1_fewestUnfulfillable_25 : decode cX1_fewestUnfulfillable 25 = .ok (.lstore 6, 2) := by decide +kernel
theorem dX1_fewestUnfulfillable_27 : decode cX1_fewestUnfulfillable 27 = .ok (.aload_n 0, 1) := by decide +kernel
theorem dX1_fewestUnfulfillable_28 : decode cX1_fewestUnfulfillable 28 = .ok (.lload 6, 2) := by decide +kernel
theorem dX1_fewestUnfulfillable_30 : decode cX1_fewestUnfulfillable 30 = .ok (.invokevirtual 151, 3) := by decide +kernel
theorem dX1_fewestUnfulfillable_33 : decode cX1_fewestUnfulfillable 33 = .ok (.lconst 0, 1) := by decide +kernel
theorem dX1_fewestUnfulfillable_34 : decode cX1_fewestUnfulfillable 34 = .ok (.lcmp, 1) := by decide +kernel
theorem dX1_fewestUnfulfillable_35 : decode cX1_fewestUnfulfillable 35 = .ok (.ifCond .ne 6, 3) := by decide +kernel
theorem dX1_fewestUnfulfillable_38 : decode cX1_fewestUnfulfillable 38 = .ok (.lload 6, 2) := by decide +kernel
theorem dX1_fewestUnfulfillable_40 : decode cX1_fewestUnfulfillable 40 = .ok (.lstore_n 3, 1) := by decide +kernel
theorem dX1_fewestUnfulfillable_41 : decode cX1_fewestUnfulfillable 41 = .ok (.iinc 5 1, 3) := by decide +kernel
theorem dX1_fewestUnfulfillable_44 : decode cX1_fewestUnfulfillable 44 = .ok (.goto (-39), 3) := by decide +kernel
theorem dX1_fewestUnfulfillable_47 : decode cX1_fewestUnfulfillable 47 = .ok (.lload_n 3, 1) := by decide +kernel
theorem dX1_fewestUnfulfillable_48 : decode cX1_fewestUnfulfillable 48 = .ok (.lreturn, 1) := by decide +kernel
theorem dX2_init_0 : decode cX2_init 0 = .ok (.aload_n 0, 1) := by decide +kernel
theorem dX2_init_1 : decode cX2_init 1 = .ok (.invokespecial 3, 3) := by decide +kernel
theorem dX2_init_4 : decode cX2_init 4 = .ok (.aload_n 0, 1) := by decide +kernel
theorem dX2_init_5 : decode cX2_init 5 = .ok (.bipush 60, 2) := by decide +kernel
theorem dX2_init_7 : decode cX2_init 7 = .ok (.newarray .int, 2) := by decide +kernel
theorem dX2_init_9 : decode cX2_init 9 = .ok (.putfield 9, 3) := by decide +kernel
theorem dX2_init_12 : decode cX2_init 12 = .ok (.aload_n 0, 1) := by decide +kernel
theorem dX2_init_13 : decode cX2_init 13 = .ok (.iconst 0, 1) := by decide +kernel
theorem dX2_init_14 : decode cX2_init 14 = .ok (.putfield 15, 3) := by decide +kernel
theorem dX2_init_17 : decode cX2_init 17 = .ok (.return_, 1) := by decide +kernel
set_option maxRecDepth 20000 in
theorem ggX2_add_X3_put : GoodIn wsX2_add wsX3_put := goodIn_r _ [5] (by decide +kernel) (by decide +kernel)
set_option maxRecDepth 20000 in
theorem gX2_add_X3_put_n19 : GoodIn wsX2_add (wsX3_put) := ggX2_add_X3_put
theorem dX2_add_0 : decode cX2_add 0 = .ok (.aload_n 0, 1) := by decide +kernel
theorem dX2_add_1 : decode cX2_add 1 = .ok (.getfield 15, 3) := by decide +kernel
theorem dX2_add_4 : decode cX2_add 4 = .ok (.bipush 60, 2) := by decide +kernel
theorem dX2_add_6 : decode cX2_add 6 = .ok (.if_icmp .lt 5, 3) := by decide +kernel
theorem dX2_add_9 : decode cX2_add 9 = .ok (.iconst 0, 1) := by decide +kernel
theorem dX2_add_10 : decode cX2_add 10 = .ok (.ireturn, 1) := by decide +kernel
theorem dX2_add_11 : decode cX2_add 11 = .ok (.aload_n 0, 1) := by decide +kernel
theorem dX2_add_12 : decode cX2_add 12 = .ok (.getfield 9, 3) := by decide +kernel
theorem dX2_add_15 : decode cX2_add 15 = .ok (.aload_n 0, 1) := by decide +kernel
theorem dX2_add_16 : decode cX2_add 16 = .ok (.getfield 15, 3) := by decide +kernel
theorem dX2_add_19 : decode cX2_add 19 = .ok (.iload_n 1, 1) := by decide +kernel
theorem dX2_add_20 : decode cX2_add 20 = .ok (.invokestatic 19, 3) := by decide +kernel
theorem dX2_add_23 : decode cX2_add 23 = .ok (.aload_n 0, 1) := by decide +kernel
theorem dX2_add_24 : decode cX2_add 24 = .ok (.dup, 1) := by decide +kernel
theorem dX2_add_25 : decode cX2_add 25 = .ok (.getfield 15, 3) := by decide +kernel
theorem dX2_add_28 : decode cX2_add 28 = .ok (.iconst 1, 1) := by decide +kernel
theorem dX2_add_29 : decode cX2_add 29 = .ok (.iadd, 1) := by decide +kernel
theorem dX2_add_30 : decode cX2_add 30 = .ok (.putfield 15, 3) := by decide +kernel
theorem dX2_add_33 : decode cX2_add 33 = .ok (.iconst 1, 1) := by decide +kernel
theorem dX2_add_34 : decode cX2_add 34 = .ok (.ireturn, 1) := by decide +kernel
set_option maxRecDepth 20000 in
theorem ggX2_whereItBreaksOff_X3_at : GoodIn wsX2_whereItBreaksOff wsX3_at := goodIn_r _ [5] (by decide +kernel) (by decide +kernel)
set_option maxRecDepth 20000 in
theorem gX2_whereItBreaksOff_X3_at_n23 : GoodIn wsX2_whereItBreaksOff (wsX3_at) := ggX2_whereItBreaksOff_X3_at
theorem dX2_whereItBreaksOff_0 : decode cX2_whereItBreaksOff 0 = .ok (.iconst 0, 1) := by decide +kernel
theorem dX2_whereItBreaksOff_1 : decode cX2_whereItBreaksOff 1 = .ok (.istore_n 1, 1) := by decide +kernel
theorem dX2_whereItBreaksOff_2 : decode cX2_whereItBreaksOff 2 = .ok (.iconst 0, 1) := by decide +kernel
theorem dX2_whereItBreaksOff_3 : decode cX2_whereItBreaksOff 3 = .ok (.istore_n 2, 1) := by decide +kernel
theorem dX2_whereItBreaksOff_4 : decode cX2_whereItBreaksOff 4 = .ok (.iload_n 2, 1) := by decide +kernel
theorem dX2_whereItBreaksOff_5 : decode cX2_whereItBreaksOff 5 = .ok (.aload_n 0, 1) := by decide +kernel
theorem dX2_whereItBreaksOff_6 : decode cX2_whereItBreaksOff 6 = .ok (.getfield 15, 3) := by decide +kernel
theorem dX2_whereItBreaksOff_9 : decode cX2_whereItBreaksOff 9 = .ok (.if_icmp .ge 72, 3) := by decide +kernel
theorem dX2_whereItBreaksOff_12 : decode cX2_whereItBreaksOff 12 = .ok (.aload_n 0, 1) := by decide +kernel
theorem dX2_whereItBreaksOff_13 : decode cX2_whereItBreaksOff 13 = .ok (.getfield 9, 3) := by decide +kernel
theorem dX2_whereItBreaksOff_16 : decode cX2_whereItBreaksOff 16 = .ok (.iload_n 2, 1) := by decide +kernel
theorem dX2_whereItBreaksOff_17 : decode cX2_whereItBreaksOff 17 = .ok (.invokestatic 23, 3) := by decide +kernel
theorem dX2_whereItBreaksOff_20 : decode cX2_whereItBreaksOff 20 = .ok (.istore_n 3, 1) := by decide +kernel
theorem dX2_whereItBreaksOff_21 : decode cX2_whereItBreaksOff 21 = .ok (.iload_n 3, 1) := by decide +kernel
theorem dX2_whereItBreaksOff_22 : decode cX2_whereItBreaksOff 22 = .ok (.bipush 97, 2) := by decide +kernel
theorem dX2_whereItBreaksOff_24 : decode cX2_whereItBreaksOff 24 = .ok (.if_icmp .lt 13, 3) := by decide +kernel
theorem dX2_whereItBreaksOff_27 : decode cX2_whereItBreaksOff 27 = .ok (.iload_n 3, 1) := by decide +kernel
theorem dX2_whereItBreaksOff_28 : decode cX2_whereItBreaksOff 28 = .ok (.bipush 103, 2) := by decide +kernel
theorem dX2_whereItBreaksOff_30 : decode cX2_whereItBreaksOff 30 = .ok (.if_icmp .ge 7, 3) := by decide +kernel
theorem dX2_whereItBreaksOff_33 : decode cX2_whereItBreaksOff 33 = .ok (.iconst 1, 1) := by decide +kernel
theorem dX2_whereItBreaksOff_34 : decode cX2_whereItBreaksOff 34 = .ok (.goto 4, 3) := by decide +kernel
theorem dX2_whereItBreaksOff_37 : decode cX2_whereItBreaksOff 37 = .ok (.iconst 0, 1) := by decide +kernel
theorem dX2_whereItBreaksOff_38 : decode cX2_whereItBreaksOff 38 = .ok (.istore 4, 2) := by decide +kernel
theorem dX2_whereItBreaksOff_40 : decode cX2_whereItBreaksOff 40 = .ok (.iload 4, 2) := by decide +kernel
theorem dX2_whereItBreaksOff_42 : decode cX2_whereItBreaksOff 42 = .ok (.ifCond .ne 21, 3) := by decide +kernel
theorem dX2_whereItBreaksOff_45 : decode cX2_whereItBreaksOff 45 = .ok (.iload_n 1, 1) := by decide +kernel
theorem dX2_whereItBreaksOff_46 : decode cX2_whereItBreaksOff 46 = .ok (.ifCond .ne 15, 3) := by decide +kernel
theorem dX2_whereItBreaksOff_49 : decode cX2_whereItBreaksOff 49 = .ok (.iload_n 3, 1) := by decide +kernel
theorem dX2_whereItBreaksOff_50 : decode cX2_whereItBreaksOff 50 = .ok (.bipush 45, 2) := by decide +kernel
theorem dX2_whereItBreaksOff_52 : decode cX2_whereItBreaksOff 52 = .ok (.if_icmp .eq 11, 3) := by decide +kernel
theorem dX2_whereItBreaksOff_55 : decode cX2_whereItBreaksOff 55 = .ok (.iload_n 3, 1) := by decide +kernel
theorem dX2_whereItBreaksOff_56 : decode cX2_whereItBreaksOff 56 = .ok (.bipush 59, 2) := by decide +kernel
theorem dX2_whereItBreaksOff_58 : decode cX2_whereItBreaksOff 58 = .ok (.if_icmp .eq 5, 3) := by decide +kernel
theorem dX2_whereItBreaksOff_61 : decode cX2_whereItBreaksOff 61 = .ok (.iload_n 2, 1) := by decide +kernel
theorem dX2_whereItBreaksOff_62 : decode cX2_whereItBreaksOff 62 = .ok (.ireturn, 1) := by decide +kernel
theorem dX2_whereItBreaksOff_63 : decode cX2_whereItBreaksOff 63 = .ok (.iload_n 3, 1) := by decide +kernel
theorem dX2_whereItBreaksOff_64 : decode cX2_whereItBreaksOff 64 = .ok (.bipush 45, 2) := by decide +kernel
theorem dX2_whereItBreaksOff_66 : decode cX2_whereItBreaksOff 66 = .ok (.if_icmp .ne 7, 3) := by decide +kernel
theorem dX2_whereItBreaksOff_69 : decode cX2_whereItBreaksOff 69 = .ok (.iconst 1, 1) := by decide +kernel
theorem dX2_whereItBreaksOff_70 : decode cX2_whereItBreaksOff 70 = .ok (.goto 4, 3) := by decide +kernel
theorem dX2_whereItBreaksOff_73 : decode cX2_whereItBreaksOff 73 = .ok (.iconst 0, 1) := by decide +kernel
theorem dX2_whereItBreaksOff_74 : decode cX2_whereItBreaksOff 74 = .ok (.istore_n 1, 1) := by decide +kernel
theorem dX2_whereItBreaksOff_75 : decode cX2_whereItBreaksOff 75 = .ok (.iinc 2 1, 3) := by decide +kernel
theorem dX2_whereItBreaksOff_78 : decode cX2_whereItBreaksOff 78 = .ok (.goto (-74), 3) := by decide +kernel
theorem dX2_whereItBreaksOff_81 : decode cX2_whereItBreaksOff 81 = .ok (.aload_n 0, 1) := by decide +kernel
theorem dX2_whereItBreaksOff_82 : decode cX2_whereItBreaksOff 82 = .ok (.getfield 15, 3) := by decide +kernel
theorem dX2_whereItBreaksOff_85 : decode cX2_whereItBreaksOff 85 = .ok (.ifCond .eq 21, 3) := by decide +kernel
theorem dX2_whereItBreaksOff_88 : decode cX2_whereItBreaksOff 88 = .ok (.aload_n 0, 1) := by decide +kernel
theorem dX2_whereItBreaksOff_89 : decode cX2_whereItBreaksOff 89 = .ok (.getfield 9, 3) := by decide +kernel
theorem dX2_whereItBreaksOff_92 : decode cX2_whereItBreaksOff 92 = .ok (.aload_n 0, 1) := by decide +kernel
theorem dX2_whereItBreaksOff_93 : decode cX2_whereItBreaksOff 93 = .ok (.getfield 15, 3) := by decide +kernel
theorem dX2_whereItBreaksOff_96 : decode cX2_whereItBreaksOff 96 = .ok (.iconst 1, 1) := by decide +kernel
theorem dX2_whereItBreaksOff_97 : decode cX2_whereItBreaksOff 97 = .ok (.isub, 1) := by decide +kernel
theorem dX2_whereItBreaksOff_98 : decode cX2_whereItBreaksOff 98 = .ok (.invokestatic 23, 3) := by decide +kernel
theorem dX2_whereItBreaksOff_101 : decode cX2_whereItBreaksOff 101 = .ok (.bipush 59, 2) := by decide +kernel
theorem dX2_whereItBreaksOff_103 : decode cX2_whereItBreaksOff 103 = .ok (.if_icmp .ne 7, 3) := by decide +kernel
theorem dX2_whereItBreaksOff_106 : decode cX2_whereItBreaksOff 106 = .ok (.iconst (-1), 1) := by decide +kernel
theorem dX2_whereItBreaksOff_107 : decode cX2_whereItBreaksOff 107 = .ok (.goto 7, 3) := by decide +kernel
theorem dX2_whereItBreaksOff_110 : decode cX2_whereItBreaksOff 110 = .ok (.aload_n 0, 1) := by decide +kernel
theorem dX2_whereItBreaksOff_111 : decode cX2_whereItBreaksOff 111 = .ok (.getfield 15, 3) := by decide +kernel
theorem dX2_whereItBreaksOff_114 : decode cX2_whereItBreaksOff 114 = .ok (.ireturn, 1) := by decide +kernel
set_option maxRecDepth 20000 in
theorem ggX2_startOfClause_X3_at : GoodIn wsX2_startOfClause wsX3_at := goodIn_r _ [4] (by decide +kernel) (by decide +kernel)
set_option maxRecDepth 20000 in
theorem gX2_startOfClause_X3_at_n23 : GoodIn wsX2_startOfClause (wsX3_at) := ggX2_startOfClause_X3_at
theorem dX2_startOfClause_0 : decode cX2_startOfClause 0 = .ok (.iload_n 1, 1) := by decide +kernel
theorem dX2_startOfClause_1 : decode cX2_startOfClause 1 = .ok (.iconst 1, 1) := by decide +kernel
theorem dX2_startOfClause_2 : decode cX2_startOfClause 2 = .ok (.isub, 1) := by decide +kernel
theorem dX2_startOfClause_3 : decode cX2_startOfClause 3 = .ok (.istore_n 2, 1) := by decide +kernel
theorem dX2_startOfClause_4 : decode cX2_startOfClause 4 = .ok (.iload_n 2, 1) := by decide +kernel
theorem dX2_startOfClause_5 : decode cX2_startOfClause 5 = .ok (.ifCond .lt 26, 3) := by decide +kernel
theorem dX2_startOfClause_8 : decode cX2_startOfClause 8 = .ok (.aload_n 0, 1) := by decide +kernel
theorem dX2_startOfClause_9 : decode cX2_startOfClause 9 = .ok (.getfield 9, 3) := by decide +kernel
theorem dX2_startOfClause_12 : decode cX2_startOfClause 12 = .ok (.iload_n 2, 1) := by decide +kernel
theorem dX2_startOfClause_13 : decode cX2_startOfClause 13 = .ok (.invokestatic 23, 3) := by decide +kernel
theorem dX2_startOfClause_16 : decode cX2_startOfClause 16 = .ok (.bipush 59, 2) := by decide +kernel
theorem dX2_startOfClause_18 : decode cX2_startOfClause 18 = .ok (.if_icmp .ne 7, 3) := by decide +kernel
theorem dX2_startOfClause_21 : decode cX2_startOfClause 21 = .ok (.iload_n 2, 1) := by decide +kernel
theorem dX2_startOfClause_22 : decode cX2_startOfClause 22 = .ok (.iconst 1, 1) := by decide +kernel
theorem dX2_startOfClause_23 : decode cX2_startOfClause 23 = .ok (.iadd, 1) := by decide +kernel
theorem dX2_startOfClause_24 : decode cX2_startOfClause 24 = .ok (.ireturn, 1) := by decide +kernel
theorem dX2_startOfClause_25 : decode cX2_startOfClause 25 = .ok (.iinc 2 (-1), 3) := by decide +kernel
theorem dX2_startOfClause_28 : decode cX2_startOfClause 28 = .ok (.goto (-24), 3) := by decide +kernel
theorem dX2_startOfClause_31 : decode cX2_startOfClause 31 = .ok (.iconst 0, 1) := by decide +kernel
theorem dX2_startOfClause_32 : decode cX2_startOfClause 32 = .ok (.ireturn, 1) := by decide +kernel
set_option maxRecDepth 20000 in
theorem ggX3_init_X1_init : GoodIn wsX3_init wsX1_init := goodIn_r _ [17, 18, 2, 3, 19, 20, 21, 22, 23, 24, 25, 26, 27, 28, 29, 30, 31, 32, 33, 34, 35, 36, 48, 49, 50, 51, 52, 53, 54, 55, 56, 57, 58, 59, 60] (by decide +kernel) (by decide +kernel)
set_option maxRecDepth 20000 in
theorem gX3_init_X1_init_n9 : GoodIn wsX3_init (wsX1_init) := ggX3_init_X1_init
set_option maxRecDepth 20000 in
theorem ggX3_init_X0_init : GoodIn wsX3_init wsX0_init := goodIn_r _ [38, 39, 2, 3, 40, 41, 42, 5, 6, 16, 17, 18, 19, 20, 21, 22, 23, 24, 25, 26, 27, 28, 29, 30, 31, 32, 33, 34, 35, 36, 64, 65, 48, 49, 50, 51, 52, 53, 54, 55, 56, 57, 58, 59, 60] (by decide +kernel) (by decide +kernel)
set_option maxRecDepth 20000 in
theorem gX3_init_X0_init_n18 : GoodIn wsX3_init (wsX0_init) := ggX3_init_X0_init
set_option maxRecDepth 20000 in
theorem ggX3_init_X2_init : GoodIn wsX3_init wsX2_init := goodIn_r _ [44, 45, 2, 3, 19, 46, 47, 66, 67] (by decide +kernel) (by decide +kernel)
set_option maxRecDepth 20000 in
theorem gX3_init_X2_init_n25 : GoodIn wsX3_init (wsX2_init) := ggX3_init_X2_init
theorem dX3_init_0 : decode cX3_init 0 = .ok (.aload_n 0, 1) := by decide +kernel
theorem dX3_init_1 : decode cX3_init 1 = .ok (.invokespecial 1, 3) := by decide +kernel
theorem dX3_init_4 : decode cX3_init 4 = .ok (.aload_n 0, 1) := by decide +kernel
theorem dX3_init_5 : decode cX3_init 5 = .ok (.new 7, 3) := by decide +kernel
theorem dX3_init_8 : decode cX3_init 8 = .ok (.dup, 1) := by decide +kernel
theorem dX3_init_9 : decode cX3_init 9 = .ok (.invokespecial 9, 3) := by decide +kernel
theorem dX3_init_12 : decode cX3_init 12 = .ok (.putfield 10, 3) := by decide +kernel
theorem dX3_init_15 : decode cX3_init 15 = .ok (.aload_n 0, 1) := by decide +kernel
theorem dX3_init_16 : decode cX3_init 16 = .ok (.new 16, 3) := by decide +kernel
theorem dX3_init_19 : decode cX3_init 19 = .ok (.dup, 1) := by decide +kernel
theorem dX3_init_20 : decode cX3_init 20 = .ok (.invokespecial 18, 3) := by decide +kernel
theorem dX3_init_23 : decode cX3_init 23 = .ok (.putfield 19, 3) := by decide +kernel
theorem dX3_init_26 : decode cX3_init 26 = .ok (.aload_n 0, 1) := by decide +kernel
theorem dX3_init_27 : decode cX3_init 27 = .ok (.new 23, 3) := by decide +kernel
theorem dX3_init_30 : decode cX3_init 30 = .ok (.dup, 1) := by decide +kernel
theorem dX3_init_31 : decode cX3_init 31 = .ok (.invokespecial 25, 3) := by decide +kernel
theorem dX3_init_34 : decode cX3_init 34 = .ok (.putfield 26, 3) := by decide +kernel
theorem dX3_init_37 : decode cX3_init 37 = .ok (.return_, 1) := by decide +kernel
set_option maxRecDepth 20000 in
theorem ggX3_tell_X0_putAside : GoodIn wsX3_tell wsX0_putAside := goodIn_r _ [7, 8, 9, 10, 11, 5, 12, 13, 14, 15, 16, 17, 18, 19, 20, 21, 22, 23, 24, 25, 26, 27, 28, 29, 30, 31, 32, 33, 34, 35, 36, 37, 38, 39, 40, 41, 42, 43, 101, 102, 103, 104, 105, 106, 107, 108, 109, 110, 111, 112, 113, 114, 115] (by decide +kernel) (by decide +kernel)
set_option maxRecDepth 20000 in
theorem gX3_tell_X0_putAside_n31 : GoodIn wsX3_tell (wsX0_putAside) := ggX3_tell_X0_putAside
set_option maxRecDepth 20000 in
theorem ggX3_tell_X1_bring : GoodIn wsX3_tell wsX1_bring := goodIn_r _ [46, 29, 30, 26, 47, 48, 32, 49, 50, 51, 52, 15, 53, 19, 54, 55, 56, 57, 20, 58, 59, 60, 61, 62, 63, 64, 65, 66, 67, 68, 69, 70, 71, 21, 22, 23, 24, 72, 73, 36, 74, 25, 75, 76, 77, 78, 79, 80, 81, 82, 83, 103, 104, 105, 106, 107, 108, 109, 110, 111, 112, 113, 114, 115] (by decide +kernel) (by decide +kernel)
set_option maxRecDepth 20000 in
theorem gX3_tell_X1_bring_n35 : GoodIn wsX3_tell (wsX1_bring) := ggX3_tell_X1_bring
set_option maxRecDepth 20000 in
theorem ggX3_tell_X3_settle : GoodIn wsX3_tell wsX3_settle := goodIn_r _ [87, 1, 2, 3, 88, 5, 89, 90, 8, 9, 10, 11, 12, 13, 14, 15, 16, 17, 18, 19, 20, 21, 22, 23, 24, 25, 26, 27, 28, 29, 30, 31, 32, 33, 34, 35, 36, 37, 38, 39, 40, 41, 42, 43, 91, 92, 93, 94, 95, 96, 97, 98, 99, 100, 101, 102, 103, 104, 105, 106, 107, 108, 109, 110, 111, 112, 113, 114, 115] (by decide +kernel) (by decide +kernel)
set_option maxRecDepth 20000 in
theorem gX3_tell_X3_settle : GoodIn wsX3_tell (wsV RX3 39 RX3 yX3_settle wsX3_settle) := goodIn_app (goodIn_of _ (by decide +kernel)) ggX3_tell_X3_settle
theorem dX3_tell_0 : decode cX3_tell 0 = .ok (.iload_n 1, 1) := by decide +kernel
theorem dX3_tell_1 : decode cX3_tell 1 = .ok (.ifCond .lt 10, 3) := by decide +kernel
theorem dX3_tell_4 : decode cX3_tell 4 = .ok (.iload_n 1, 1) := by decide +kernel
theorem dX3_tell_5 : decode cX3_tell 5 = .ok (.sipush 4095, 3) := by decide +kernel
theorem dX3_tell_8 : decode cX3_tell 8 = .ok (.if_icmp .le 6, 3) := by decide +kernel
theorem dX3_tell_11 : decode cX3_tell 11 = .ok (.ldc 30, 2) := by decide +kernel
theorem dX3_tell_13 : decode cX3_tell 13 = .ok (.ireturn, 1) := by decide +kernel
theorem dX3_tell_14 : decode cX3_tell 14 = .ok (.aload_n 0, 1) := by decide +kernel
theorem dX3_tell_15 : decode cX3_tell 15 = .ok (.getfield 19, 3) := by decide +kernel
theorem dX3_tell_18 : decode cX3_tell 18 = .ok (.aload_n 0, 1) := by decide +kernel
theorem dX3_tell_19 : decode cX3_tell 19 = .ok (.getfield 10, 3) := by decide +kernel
theorem dX3_tell_22 : decode cX3_tell 22 = .ok (.invokevirtual 31, 3) := by decide +kernel
theorem dX3_tell_25 : decode cX3_tell 25 = .ok (.aload_n 0, 1) := by decide +kernel
theorem dX3_tell_26 : decode cX3_tell 26 = .ok (.aload_n 0, 1) := by decide +kernel
theorem dX3_tell_27 : decode cX3_tell 27 = .ok (.getfield 10, 3) := by decide +kernel
theorem dX3_tell_30 : decode cX3_tell 30 = .ok (.iload_n 1, 1) := by decide +kernel
theorem dX3_tell_31 : decode cX3_tell 31 = .ok (.iconst (-1), 1) := by decide +kernel
theorem dX3_tell_32 : decode cX3_tell 32 = .ok (.iconst (-1), 1) := by decide +kernel
theorem dX3_tell_33 : decode cX3_tell 33 = .ok (.iconst (-1), 1) := by decide +kernel
theorem dX3_tell_34 : decode cX3_tell 34 = .ok (.invokevirtual 35, 3) := by decide +kernel
theorem dX3_tell_37 : decode cX3_tell 37 = .ok (.invokevirtual 39, 3) := by decide +kernel
theorem dX3_tell_40 : decode cX3_tell 40 = .ok (.ireturn, 1) := by decide +kernel
set_option maxRecDepth 20000 in
theorem ggX3_rank_X0_putAside : GoodIn wsX3_rank wsX0_putAside := goodIn_r _ [7, 8, 9, 10, 11, 5, 12, 13, 14, 15, 16, 17, 18, 19, 20, 21, 22, 23, 24, 25, 26, 27, 28, 29, 30, 31, 32, 33, 34, 35, 36, 37, 38, 39, 40, 41, 42, 43, 72, 73, 74, 75, 76, 77, 78, 79, 80, 81, 82, 83, 84, 85, 86] (by decide +kernel) (by decide +kernel)
set_option maxRecDepth 20000 in
theorem gX3_rank_X0_putAside_n31 : GoodIn wsX3_rank (wsX0_putAside) := ggX3_rank_X0_putAside
set_option maxRecDepth 20000 in
theorem ggX3_rank_X1_changeRank : GoodIn wsX3_rank wsX1_changeRank := goodIn_r _ [46, 18, 26, 20, 47, 48, 49, 15, 50, 51, 32, 52, 53, 54, 74, 75, 76, 77, 78, 79, 80, 81, 82, 83, 84, 85, 86] (by decide +kernel) (by decide +kernel)
set_option maxRecDepth 20000 in
theorem gX3_rank_X1_changeRank_n43 : GoodIn wsX3_rank (wsX1_changeRank) := ggX3_rank_X1_changeRank
set_option maxRecDepth 20000 in
theorem ggX3_rank_X3_settle : GoodIn wsX3_rank wsX3_settle := goodIn_r _ [58, 1, 2, 3, 59, 5, 60, 61, 8, 9, 10, 11, 12, 13, 14, 15, 16, 17, 18, 19, 20, 21, 22, 23, 24, 25, 26, 27, 28, 29, 30, 31, 32, 33, 34, 35, 36, 37, 38, 39, 40, 41, 42, 43, 62, 63, 64, 65, 66, 67, 68, 69, 70, 71, 72, 73, 74, 75, 76, 77, 78, 79, 80, 81, 82, 83, 84, 85, 86] (by decide +kernel) (by decide +kernel)
set_option maxRecDepth 20000 in
theorem gX3_rank_X3_settle : GoodIn wsX3_rank (wsV RX3 39 RX3 yX3_settle wsX3_settle) := goodIn_app (goodIn_of _ (by decide +kernel)) ggX3_rank_X3_settle
theorem dX3_rank_0 : decode cX3_rank 0 = .ok (.iload_n 1, 1) := by decide +kernel
theorem dX3_rank_1 : decode cX3_rank 1 = .ok (.ifCond .lt 19, 3) := by decide +kernel
theorem dX3_rank_4 : decode cX3_rank 4 = .ok (.iload_n 1, 1) := by decide +kernel
theorem dX3_rank_5 : decode cX3_rank 5 = .ok (.bipush 6, 2) := by decide +kernel
theorem dX3_rank_7 : decode cX3_rank 7 = .ok (.if_icmp .ge 13, 3) := by decide +kernel
theorem dX3_rank_10 : decode cX3_rank 10 = .ok (.iload_n 2, 1) := by decide +kernel
theorem dX3_rank_11 : decode cX3_rank 11 = .ok (.ifCond .lt 9, 3) := by decide +kernel
theorem dX3_rank_14 : decode cX3_rank 14 = .ok (.iload_n 2, 1) := by decide +kernel
theorem dX3_rank_15 : decode cX3_rank 15 = .ok (.bipush 6, 2) := by decide +kernel
theorem dX3_rank_17 : decode cX3_rank 17 = .ok (.if_icmp .lt 6, 3) := by decide +kernel
theorem dX3_rank_20 : decode cX3_rank 20 = .ok (.ldc 30, 2) := by decide +kernel
theorem dX3_rank_22 : decode cX3_rank 22 = .ok (.ireturn, 1) := by decide +kernel
theorem dX3_rank_23 : decode cX3_rank 23 = .ok (.aload_n 0, 1) := by decide +kernel
theorem dX3_rank_24 : decode cX3_rank 24 = .ok (.getfield 19, 3) := by decide +kernel
theorem dX3_rank_27 : decode cX3_rank 27 = .ok (.aload_n 0, 1) := by decide +kernel
theorem dX3_rank_28 : decode cX3_rank 28 = .ok (.getfield 10, 3) := by decide +kernel
theorem dX3_rank_31 : decode cX3_rank 31 = .ok (.invokevirtual 31, 3) := by decide +kernel
theorem dX3_rank_34 : decode cX3_rank 34 = .ok (.aload_n 0, 1) := by decide +kernel
theorem dX3_rank_35 : decode cX3_rank 35 = .ok (.aload_n 0, 1) := by decide +kernel
theorem dX3_rank_36 : decode cX3_rank 36 = .ok (.getfield 10, 3) := by decide +kernel
theorem dX3_rank_39 : decode cX3_rank 39 = .ok (.iload_n 1, 1) := by decide +kernel
theorem dX3_rank_40 : decode cX3_rank 40 = .ok (.iload_n 2, 1) := by decide +kernel
theorem dX3_rank_41 : decode cX3_rank 41 = .ok (.invokevirtual 43, 3) := by decide +kernel
theorem dX3_rank_44 : decode cX3_rank 44 = .ok (.invokevirtual 39, 3) := by decide +kernel
theorem dX3_rank_47 : decode cX3_rank 47 = .ok (.ireturn, 1) := by decide +kernel
set_option maxRecDepth 20000 in
theorem ggX3_set_X0_putAside : GoodIn wsX3_set wsX0_putAside := goodIn_r _ [7, 8, 9, 10, 11, 5, 12, 13, 14, 15, 16, 17, 18, 19, 20, 21, 22, 23, 24, 25, 26, 27, 28, 29, 30, 31, 32, 33, 34, 35, 36, 37, 38, 39, 40, 41, 42, 43, 74, 75, 61, 62, 63, 64, 65, 66, 67, 68, 69, 70, 71, 72, 73] (by decide +kernel) (by decide +kernel)
set_option maxRecDepth 20000 in
theorem gX3_set_X0_putAside_n31 : GoodIn wsX3_set (wsX0_putAside) := ggX3_set_X0_putAside
set_option maxRecDepth 20000 in
theorem ggX3_set_X3_settle : GoodIn wsX3_set wsX3_settle := goodIn_r _ [47, 1, 2, 3, 48, 5, 49, 50, 8, 9, 10, 11, 12, 13, 14, 15, 16, 17, 18, 19, 20, 21, 22, 23, 24, 25, 26, 27, 28, 29, 30, 31, 32, 33, 34, 35, 36, 37, 38, 39, 40, 41, 42, 43, 51, 52, 53, 54, 55, 56, 57, 58, 59, 60, 74, 75, 61, 62, 63, 64, 65, 66, 67, 68, 69, 70, 71, 72, 73] (by decide +kernel) (by decide +kernel)
set_option maxRecDepth 20000 in
theorem gX3_set_X3_settle : GoodIn wsX3_set (wsV RX3 39 RX3 yX3_settle wsX3_settle) := goodIn_app (goodIn_of _ (by decide +kernel)) ggX3_set_X3_settle
theorem dX3_set_0 : decode cX3_set 0 = .ok (.iload_n 1, 1) := by decide +kernel
theorem dX3_set_1 : decode cX3_set 1 = .ok (.iconst 1, 1) := by decide +kernel
theorem dX3_set_2 : decode cX3_set 2 = .ok (.if_icmp .lt 9, 3) := by decide +kernel
theorem dX3_set_5 : decode cX3_set 5 = .ok (.iload_n 1, 1) := by decide +kernel
theorem dX3_set_6 : decode cX3_set 6 = .ok (.bipush 9, 2) := by decide +kernel
theorem dX3_set_8 : decode cX3_set 8 = .ok (.if_icmp .le 6, 3) := by decide +kernel
theorem dX3_set_11 : decode cX3_set 11 = .ok (.ldc 30, 2) := by decide +kernel
theorem dX3_set_13 : decode cX3_set 13 = .ok (.ireturn, 1) := by decide +kernel
theorem dX3_set_14 : decode cX3_set 14 = .ok (.aload_n 0, 1) := by decide +kernel
theorem dX3_set_15 : decode cX3_set 15 = .ok (.getfield 19, 3) := by decide +kernel
theorem dX3_set_18 : decode cX3_set 18 = .ok (.aload_n 0, 1) := by decide +kernel
theorem dX3_set_19 : decode cX3_set 19 = .ok (.getfield 10, 3) := by decide +kernel
theorem dX3_set_22 : decode cX3_set 22 = .ok (.invokevirtual 31, 3) := by decide +kernel
theorem dX3_set_25 : decode cX3_set 25 = .ok (.aload_n 0, 1) := by decide +kernel
theorem dX3_set_26 : decode cX3_set 26 = .ok (.getfield 10, 3) := by decide +kernel
theorem dX3_set_29 : decode cX3_set 29 = .ok (.getfield 47, 3) := by decide +kernel
theorem dX3_set_32 : decode cX3_set 32 = .ok (.istore_n 2, 1) := by decide +kernel
theorem dX3_set_33 : decode cX3_set 33 = .ok (.aload_n 0, 1) := by decide +kernel
theorem dX3_set_34 : decode cX3_set 34 = .ok (.getfield 10, 3) := by decide +kernel
theorem dX3_set_37 : decode cX3_set 37 = .ok (.iload_n 1, 1) := by decide +kernel
theorem dX3_set_38 : decode cX3_set 38 = .ok (.putfield 47, 3) := by decide +kernel
theorem dX3_set_41 : decode cX3_set 41 = .ok (.aload_n 0, 1) := by decide +kernel
theorem dX3_set_42 : decode cX3_set 42 = .ok (.iload_n 2, 1) := by decide +kernel
theorem dX3_set_43 : decode cX3_set 43 = .ok (.invokevirtual 39, 3) := by decide +kernel
theorem dX3_set_46 : decode cX3_set 46 = .ok (.ireturn, 1) := by decide +kernel
set_option maxRecDepth 20000 in
theorem ggX3_step_X0_putAside : GoodIn wsX3_step wsX0_putAside := goodIn_r _ [6, 7, 8, 9, 10, 4, 11, 12, 13, 14, 15, 16, 17, 18, 19, 20, 21, 22, 23, 24, 25, 26, 27, 28, 29, 30, 31, 32, 33, 34, 35, 36, 37, 38, 39, 40, 41, 42, 129, 130, 131, 132, 133, 134, 135, 136, 137, 138, 139, 140, 141, 142, 143] (by decide +kernel) (by decide +kernel)
set_option maxRecDepth 20000 in
theorem gX3_step_X0_putAside_n31 : GoodIn wsX3_step (wsX0_putAside) := ggX3_step_X0_putAside
set_option maxRecDepth 20000 in
theorem ggX3_step_X1_takeStep : GoodIn wsX3_step wsX1_takeStep := goodIn_r _ [45, 46, 26, 19, 47, 48, 49, 50, 14, 51, 25, 18, 52, 31, 53, 54, 55, 56, 57, 27, 58, 59, 60, 61, 62, 63, 64, 65, 66, 67, 68, 69, 70, 71, 72, 73, 74, 17, 75, 76, 77, 78, 79, 80, 81, 82, 28, 29, 83, 84, 85, 86, 87, 88, 89, 90, 91, 92, 93, 94, 95, 96, 97, 98, 20, 21, 22, 23, 99, 100, 35, 101, 24, 102, 103, 104, 105, 106, 107, 108, 109, 110, 131, 132, 133, 134, 135, 136, 137, 138, 139, 140, 141, 142, 143] (by decide +kernel) (by decide +kernel)
set_option maxRecDepth 20000 in
theorem gX3_step_X1_takeStep_n51 : GoodIn wsX3_step (wsX1_takeStep) := ggX3_step_X1_takeStep
set_option maxRecDepth 20000 in
theorem ggX3_step_X3_settle : GoodIn wsX3_step wsX3_settle := goodIn_r _ [114, 115, 1, 2, 116, 4, 117, 118, 7, 8, 9, 10, 11, 12, 13, 14, 15, 16, 17, 18, 19, 20, 21, 22, 23, 24, 25, 26, 27, 28, 29, 30, 31, 32, 33, 34, 35, 36, 37, 38, 39, 40, 41, 42, 119, 120, 121, 122, 123, 124, 125, 126, 127, 128, 129, 130, 131, 132, 133, 134, 135, 136, 137, 138, 139, 140, 141, 142, 143] (by decide +kernel) (by decide +kernel)
set_option maxRecDepth 20000 in
theorem gX3_step_X3_settle : GoodIn wsX3_step (wsV RX3 39 RX3 yX3_settle wsX3_settle) := goodIn_app (goodIn_of _ (by decide +kernel)) ggX3_step_X3_settle
theorem dX3_step_0 : decode cX3_step 0 = .ok (.aload_n 0, 1) := by decide +kernel
theorem dX3_step_1 : decode cX3_step 1 = .ok (.getfield 19, 3) := by decide +kernel
theorem dX3_step_4 : decode cX3_step 4 = .ok (.aload_n 0, 1) := by decide +kernel
theorem dX3_step_5 : decode cX3_step 5 = .ok (.getfield 10, 3) := by decide +kernel
theorem dX3_step_8 : decode cX3_step 8 = .ok (.invokevirtual 31, 3) := by decide +kernel
theorem dX3_step_11 : decode cX3_step 11 = .ok (.aload_n 0, 1) := by decide +kernel
theorem dX3_step_12 : decode cX3_step 12 = .ok (.aload_n 0, 1) := by decide +kernel
theorem dX3_step_13 : decode cX3_step 13 = .ok (.getfield 10, 3) := by decide +kernel
theorem dX3_step_16 : decode cX3_step 16 = .ok (.invokevirtual 51, 3) := by decide +kernel
theorem dX3_step_19 : decode cX3_step 19 = .ok (.invokevirtual 39, 3) := by decide +kernel
theorem dX3_step_22 : decode cX3_step 22 = .ok (.ireturn, 1) := by decide +kernel
set_option maxRecDepth 20000 in
theorem ggX3_run_X0_putAside : GoodIn wsX3_run wsX0_putAside := goodIn_r _ [9, 10, 11, 12, 13, 7, 14, 15, 16, 17, 18, 19, 20, 21, 22, 23, 24, 25, 26, 27, 28, 29, 30, 31, 32, 33, 34, 35, 36, 37, 38, 39, 40, 41, 42, 43, 44, 45, 131, 132, 133, 134, 135, 136, 137, 138, 139, 140, 141, 142, 143, 144, 145] (by decide +kernel) (by decide +kernel)
set_option maxRecDepth 20000 in
theorem gX3_run_X0_putAside_n31 : GoodIn wsX3_run (wsX0_putAside) := ggX3_run_X0_putAside
set_option maxRecDepth 20000 in
theorem ggX3_run_X1_takeStep : GoodIn wsX3_run wsX1_takeStep := goodIn_r _ [48, 49, 29, 22, 50, 51, 52, 53, 17, 54, 28, 21, 55, 34, 56, 57, 58, 59, 60, 30, 61, 62, 63, 64, 65, 66, 67, 68, 69, 70, 71, 72, 73, 74, 75, 76, 77, 20, 78, 79, 80, 81, 82, 83, 84, 85, 31, 32, 86, 87, 88, 89, 90, 91, 92, 93, 94, 95, 96, 97, 98, 99, 100, 101, 23, 24, 25, 26, 102, 103, 38, 104, 27, 105, 106, 107, 108, 109, 110, 111, 112, 113, 133, 134, 135, 136, 137, 138, 139, 140, 141, 142, 143, 144, 145] (by decide +kernel) (by decide +kernel)
set_option maxRecDepth 20000 in
theorem gX3_run_X1_takeStep_n51 : GoodIn wsX3_run (wsX1_takeStep) := ggX3_run_X1_takeStep
set_option maxRecDepth 20000 in
theorem ggX3_run_X3_settle : GoodIn wsX3_run wsX3_settle := goodIn_r _ [117, 1, 2, 3, 118, 7, 119, 120, 10, 11, 12, 13, 14, 15, 16, 17, 18, 19, 20, 21, 22, 23, 24, 25, 26, 27, 28, 29, 30, 31, 32, 33, 34, 35, 36, 37, 38, 39, 40, 41, 42, 43, 44, 45, 121, 122, 123, 124, 125, 126, 127, 128, 129, 130, 131, 132, 133, 134, 135, 136, 137, 138, 139, 140, 141, 142, 143, 144, 145] (by decide +kernel) (by decide +kernel)
set_option maxRecDepth 20000 in
theorem gX3_run_X3_settle : GoodIn wsX3_run (wsV RX3 39 RX3 yX3_settle wsX3_settle) := goodIn_app (goodIn_of _ (by decide +kernel)) ggX3_run_X3_settle
theorem dX3_run_0 : decode cX3_run 0 = .ok (.iload_n 1, 1) := by decide +kernel
theorem dX3_run_1 : decode cX3_run 1 = .ok (.iconst 1, 1) := by decide +kernel
theorem dX3_run_2 : decode cX3_run 2 = .ok (.if_icmp .lt 9, 3) := by decide +kernel
theorem dX3_run_5 : decode cX3_run 5 = .ok (.iload_n 1, 1) := by decide +kernel
theorem dX3_run_6 : decode cX3_run 6 = .ok (.bipush 40, 2) := by decide +kernel
theorem dX3_run_8 : decode cX3_run 8 = .ok (.if_icmp .le 6, 3) := by decide +kernel
theorem dX3_run_11 : decode cX3_run 11 = .ok (.ldc 30, 2) := by decide +kernel
theorem dX3_run_13 : decode cX3_run 13 = .ok (.ireturn, 1) := by decide +kernel
theorem dX3_run_14 : decode cX3_run 14 = .ok (.aload_n 0, 1) := by decide +kernel
theorem dX3_run_15 : decode cX3_run 15 = .ok (.getfield 19, 3) := by decide +kernel
theorem dX3_run_18 : decode cX3_run 18 = .ok (.aload_n 0, 1) := by decide +kernel
theorem dX3_run_19 : decode cX3_run 19 = .ok (.getfield 10, 3) := by decide +kernel
theorem dX3_run_22 : decode cX3_run 22 = .ok (.invokevirtual 31, 3) := by decide +kernel
theorem dX3_run_25 : decode cX3_run 25 = .ok (.iconst 0, 1) := by decide +kernel
theorem dX3_run_26 : decode cX3_run 26 = .ok (.istore_n 2, 1) := by decide +kernel
theorem dX3_run_27 : decode cX3_run 27 = .ok (.iconst 0, 1) := by decide +kernel
theorem dX3_run_28 : decode cX3_run 28 = .ok (.istore_n 3, 1) := by decide +kernel
theorem dX3_run_29 : decode cX3_run 29 = .ok (.iload_n 3, 1) := by decide +kernel
theorem dX3_run_30 : decode cX3_run 30 = .ok (.iload_n 1, 1) := by decide +kernel
theorem dX3_run_31 : decode cX3_run 31 = .ok (.if_icmp .ge 45, 3) := by decide +kernel
theorem dX3_run_34 : decode cX3_run 34 = .ok (.aload_n 0, 1) := by decide +kernel
theorem dX3_run_35 : decode cX3_run 35 = .ok (.getfield 10, 3) := by decide +kernel
theorem dX3_run_38 : decode cX3_run 38 = .ok (.invokevirtual 51, 3) := by decide +kernel
theorem dX3_run_41 : decode cX3_run 41 = .ok (.istore 4, 2) := by decide +kernel
theorem dX3_run_43 : decode cX3_run 43 = .ok (.iload 4, 2) := by decide +kernel
theorem dX3_run_45 : decode cX3_run 45 = .ok (.ldc 55, 2) := by decide +kernel
theorem dX3_run_47 : decode cX3_run 47 = .ok (.if_icmp .ne 10, 3) := by decide +kernel
theorem dX3_run_50 : decode cX3_run 50 = .ok (.aload_n 0, 1) := by decide +kernel
theorem dX3_run_51 : decode cX3_run 51 = .ok (.ldc 55, 2) := by decide +kernel
theorem dX3_run_53 : decode cX3_run 53 = .ok (.invokevirtual 39, 3) := by decide +kernel
theorem dX3_run_56 : decode cX3_run 56 = .ok (.ireturn, 1) := by decide +kernel
theorem dX3_run_57 : decode cX3_run 57 = .ok (.iload 4, 2) := by decide +kernel
theorem dX3_run_59 : decode cX3_run 59 = .ok (.ldc 56, 2) := by decide +kernel
theorem dX3_run_61 : decode cX3_run 61 = .ok (.if_icmp .ne 6, 3) := by decide +kernel
theorem dX3_run_64 : decode cX3_run 64 = .ok (.goto 12, 3) := by decide +kernel
theorem dX3_run_67 : decode cX3_run 67 = .ok (.iinc 2 1, 3) := by decide +kernel
theorem dX3_run_70 : decode cX3_run 70 = .ok (.iinc 3 1, 3) := by decide +kernel
theorem dX3_run_73 : decode cX3_run 73 = .ok (.goto (-44), 3) := by decide +kernel
theorem dX3_run_76 : decode cX3_run 76 = .ok (.aload_n 0, 1) := by decide +kernel
theorem dX3_run_77 : decode cX3_run 77 = .ok (.iload_n 2, 1) := by decide +kernel
theorem dX3_run_78 : decode cX3_run 78 = .ok (.invokevirtual 39, 3) := by decide +kernel
theorem dX3_run_81 : decode cX3_run 81 = .ok (.ireturn, 1) := by decide +kernel
set_option maxRecDepth 20000 in
theorem ggX3_empty_X0_putAside : GoodIn wsX3_empty wsX0_putAside := goodIn_r _ [6, 7, 8, 9, 10, 4, 11, 12, 13, 14, 15, 16, 17, 18, 19, 20, 21, 22, 23, 24, 25, 26, 27, 28, 29, 30, 31, 32, 33, 34, 35, 36, 37, 38, 39, 40, 41, 42, 74, 75, 61, 62, 63, 64, 65, 66, 67, 68, 69, 70, 71, 72, 73] (by decide +kernel) (by decide +kernel)
set_option maxRecDepth 20000 in
theorem gX3_empty_X0_putAside_n31 : GoodIn wsX3_empty (wsX0_putAside) := ggX3_empty_X0_putAside
set_option maxRecDepth 20000 in
theorem ggX3_empty_X3_settle : GoodIn wsX3_empty wsX3_settle := goodIn_r _ [46, 47, 1, 2, 48, 4, 49, 50, 7, 8, 9, 10, 11, 12, 13, 14, 15, 16, 17, 18, 19, 20, 21, 22, 23, 24, 25, 26, 27, 28, 29, 30, 31, 32, 33, 34, 35, 36, 37, 38, 39, 40, 41, 42, 51, 52, 53, 54, 55, 56, 57, 58, 59, 60, 74, 75, 61, 62, 63, 64, 65, 66, 67, 68, 69, 70, 71, 72, 73] (by decide +kernel) (by decide +kernel)
set_option maxRecDepth 20000 in
theorem gX3_empty_X3_settle : GoodIn wsX3_empty (wsV RX3 39 RX3 yX3_settle wsX3_settle) := goodIn_app (goodIn_of _ (by decide +kernel)) ggX3_empty_X3_settle
theorem dX3_empty_0 : decode cX3_empty 0 = .ok (.aload_n 0, 1) := by decide +kernel
theorem dX3_empty_1 : decode cX3_empty 1 = .ok (.getfield 19, 3) := by decide +kernel
theorem dX3_empty_4 : decode cX3_empty 4 = .ok (.aload_n 0, 1) := by decide +kernel
theorem dX3_empty_5 : decode cX3_empty 5 = .ok (.getfield 10, 3) := by decide +kernel
theorem dX3_empty_8 : decode cX3_empty 8 = .ok (.invokevirtual 31, 3) := by decide +kernel
theorem dX3_empty_11 : decode cX3_empty 11 = .ok (.aload_n 0, 1) := by decide +kernel
theorem dX3_empty_12 : decode cX3_empty 12 = .ok (.getfield 10, 3) := by decide +kernel
theorem dX3_empty_15 : decode cX3_empty 15 = .ok (.getfield 57, 3) := by decide +kernel
theorem dX3_empty_18 : decode cX3_empty 18 = .ok (.istore_n 1, 1) := by decide +kernel
theorem dX3_empty_19 : decode cX3_empty 19 = .ok (.aload_n 0, 1) := by decide +kernel
theorem dX3_empty_20 : decode cX3_empty 20 = .ok (.getfield 10, 3) := by decide +kernel
theorem dX3_empty_23 : decode cX3_empty 23 = .ok (.iconst 0, 1) := by decide +kernel
theorem dX3_empty_24 : decode cX3_empty 24 = .ok (.putfield 57, 3) := by decide +kernel
theorem dX3_empty_27 : decode cX3_empty 27 = .ok (.aload_n 0, 1) := by decide +kernel
theorem dX3_empty_28 : decode cX3_empty 28 = .ok (.getfield 10, 3) := by decide +kernel
theorem dX3_empty_31 : decode cX3_empty 31 = .ok (.iconst 0, 1) := by decide +kernel
theorem dX3_empty_32 : decode cX3_empty 32 = .ok (.putfield 60, 3) := by decide +kernel
theorem dX3_empty_35 : decode cX3_empty 35 = .ok (.aload_n 0, 1) := by decide +kernel
theorem dX3_empty_36 : decode cX3_empty 36 = .ok (.iload_n 1, 1) := by decide +kernel
theorem dX3_empty_37 : decode cX3_empty 37 = .ok (.invokevirtual 39, 3) := by decide +kernel
theorem dX3_empty_40 : decode cX3_empty 40 = .ok (.ireturn, 1) := by decide +kernel
set_option maxRecDepth 20000 in
theorem ggX3_clauseOf_X1_has : GoodIn wsX3_clauseOf wsX1_has := goodIn_r _ [6, 7, 46, 47, 48, 49, 50, 51, 52, 53, 54, 55, 56, 57, 58] (by decide +kernel) (by decide +kernel)
set_option maxRecDepth 20000 in
theorem gX3_clauseOf_X1_has_n63 : GoodIn wsX3_clauseOf (wsX1_has) := ggX3_clauseOf_X1_has
set_option maxRecDepth 20000 in
theorem ggX3_clauseOf_X3_at : GoodIn wsX3_clauseOf wsX3_at := goodIn_r _ [11] (by decide +kernel) (by decide +kernel)
set_option maxRecDepth 20000 in
theorem gX3_clauseOf_X3_at : GoodIn wsX3_clauseOf (va_wsS RX3 71 yX3_at wsX3_at) := goodIn_app (goodIn_of _ (by decide +kernel)) ggX3_clauseOf_X3_at
set_option maxRecDepth 20000 in
theorem ggX3_clauseOf_X1_greatestOf : GoodIn wsX3_clauseOf wsX1_greatestOf := goodIn_r _ [14, 15, 9, 10, 11, 46, 47, 48, 49, 50, 51, 52, 53, 54, 55, 56, 57, 58] (by decide +kernel) (by decide +kernel)
set_option maxRecDepth 20000 in
theorem gX3_clauseOf_X1_greatestOf_n78 : GoodIn wsX3_clauseOf (wsX1_greatestOf) := ggX3_clauseOf_X1_greatestOf
set_option maxRecDepth 20000 in
theorem ggX3_clauseOf_X3_foundOrNot : GoodIn wsX3_clauseOf wsX3_foundOrNot := goodIn_r _ [18, 19] (by decide +kernel) (by decide +kernel)
set_option maxRecDepth 20000 in
theorem gX3_clauseOf_X3_foundOrNot : GoodIn wsX3_clauseOf (va_wsS RX3 81 yX3_foundOrNot wsX3_foundOrNot) := goodIn_app (goodIn_of _ (by decide +kernel)) ggX3_clauseOf_X3_foundOrNot
set_option maxRecDepth 20000 in
theorem ggX3_clauseOf_J6_bitCount_0f7a4 : GoodIn wsX3_clauseOf wsJ6_bitCount_0f7a4 := goodIn_r _ [23, 24, 25, 26] (by decide +kernel) (by decide +kernel)
set_option maxRecDepth 20000 in
theorem gX3_clauseOf_J6_bitCount_0f7a4 : GoodIn wsX3_clauseOf (va_wsS RX3 93 yJ6_bitCount_0f7a4 wsJ6_bitCount_0f7a4) := goodIn_app (goodIn_of _ (by decide +kernel)) ggX3_clauseOf_J6_bitCount_0f7a4
set_option maxRecDepth 20000 in
theorem ggX3_clauseOf_X1_howManyLessThan : GoodIn wsX3_clauseOf wsX1_howManyLessThan := goodIn_r _ [29, 7, 30, 31, 32, 33, 4, 34, 35, 9, 10, 11, 36, 37, 38, 39, 40, 12, 13, 14, 15, 41, 42, 46, 47, 48, 49, 50, 51, 52, 53, 54, 55, 56, 57, 58] (by decide +kernel) (by decide +kernel)
set_option maxRecDepth 20000 in
theorem gX3_clauseOf_X1_howManyLessThan_n98 : GoodIn wsX3_clauseOf (wsX1_howManyLessThan) := ggX3_clauseOf_X1_howManyLessThan
theorem dX3_clauseOf_0 : decode cX3_clauseOf 0 = .ok (.aload_n 0, 1) := by decide +kernel
theorem dX3_clauseOf_1 : decode cX3_clauseOf 1 = .ok (.getfield 10, 3) := by decide +kernel
theorem dX3_clauseOf_4 : decode cX3_clauseOf 4 = .ok (.iload_n 1, 1) := by decide +kernel
theorem dX3_clauseOf_5 : decode cX3_clauseOf 5 = .ok (.invokevirtual 63, 3) := by decide +kernel
theorem dX3_clauseOf_8 : decode cX3_clauseOf 8 = .ok (.ifCond .ne 6, 3) := by decide +kernel
theorem dX3_clauseOf_11 : decode cX3_clauseOf 11 = .ok (.ldc 30, 2) := by decide +kernel
theorem dX3_clauseOf_13 : decode cX3_clauseOf 13 = .ok (.ireturn, 1) := by decide +kernel
theorem dX3_clauseOf_14 : decode cX3_clauseOf 14 = .ok (.iload_n 2, 1) := by decide +kernel
theorem dX3_clauseOf_15 : decode cX3_clauseOf 15 = .ok (.tableswitch 176 0 8 #[49, 61, 73, 95, 110, 125, 140, 155, 164], 49) := by decide +kernel
theorem dX3_clauseOf_64 : decode cX3_clauseOf 64 = .ok (.aload_n 0, 1) := by decide +kernel
theorem dX3_clauseOf_65 : decode cX3_clauseOf 65 = .ok (.getfield 10, 3) := by decide +kernel
theorem dX3_clauseOf_68 : decode cX3_clauseOf 68 = .ok (.getfield 67, 3) := by decide +kernel
theorem dX3_clauseOf_71 : decode cX3_clauseOf 71 = .ok (.iload_n 1, 1) := by decide +kernel
theorem dX3_clauseOf_72 : decode cX3_clauseOf 72 = .ok (.invokestatic 71, 3) := by decide +kernel
theorem dX3_clauseOf_75 : decode cX3_clauseOf 75 = .ok (.ireturn, 1) := by decide +kernel
theorem dX3_clauseOf_76 : decode cX3_clauseOf 76 = .ok (.aload_n 0, 1) := by decide +kernel
theorem dX3_clauseOf_77 : decode cX3_clauseOf 77 = .ok (.getfield 10, 3) := by decide +kernel
theorem dX3_clauseOf_80 : decode cX3_clauseOf 80 = .ok (.getfield 75, 3) := by decide +kernel
theorem dX3_clauseOf_83 : decode cX3_clauseOf 83 = .ok (.iload_n 1, 1) := by decide +kernel
theorem dX3_clauseOf_84 : decode cX3_clauseOf 84 = .ok (.invokestatic 71, 3) := by decide +kernel
theorem dX3_clauseOf_87 : decode cX3_clauseOf 87 = .ok (.ireturn, 1) := by decide +kernel
theorem dX3_clauseOf_88 : decode cX3_clauseOf 88 = .ok (.aload_n 0, 1) := by decide +kernel
theorem dX3_clauseOf_89 : decode cX3_clauseOf 89 = .ok (.getfield 10, 3) := by decide +kernel
theorem dX3_clauseOf_92 : decode cX3_clauseOf 92 = .ok (.aload_n 0, 1) := by decide +kernel
theorem dX3_clauseOf_93 : decode cX3_clauseOf 93 = .ok (.getfield 10, 3) := by decide +kernel
theorem dX3_clauseOf_96 : decode cX3_clauseOf 96 = .ok (.getfield 67, 3) := by decide +kernel
theorem dX3_clauseOf_99 : decode cX3_clauseOf 99 = .ok (.iload_n 1, 1) := by decide +kernel
theorem dX3_clauseOf_100 : decode cX3_clauseOf 100 = .ok (.invokestatic 71, 3) := by decide +kernel
theorem dX3_clauseOf_103 : decode cX3_clauseOf 103 = .ok (.invokevirtual 78, 3) := by decide +kernel
theorem dX3_clauseOf_106 : decode cX3_clauseOf 106 = .ok (.invokestatic 81, 3) := by decide +kernel
theorem dX3_clauseOf_109 : decode cX3_clauseOf 109 = .ok (.ireturn, 1) := by decide +kernel
theorem dX3_clauseOf_110 : decode cX3_clauseOf 110 = .ok (.aload_n 0, 1) := by decide +kernel
theorem dX3_clauseOf_111 : decode cX3_clauseOf 111 = .ok (.getfield 10, 3) := by decide +kernel
theorem dX3_clauseOf_114 : decode cX3_clauseOf 114 = .ok (.getfield 84, 3) := by decide +kernel
theorem dX3_clauseOf_117 : decode cX3_clauseOf 117 = .ok (.iload_n 1, 1) := by decide +kernel
theorem dX3_clauseOf_118 : decode cX3_clauseOf 118 = .ok (.invokestatic 71, 3) := by decide +kernel
theorem dX3_clauseOf_121 : decode cX3_clauseOf 121 = .ok (.invokestatic 81, 3) := by decide +kernel
theorem dX3_clauseOf_124 : decode cX3_clauseOf 124 = .ok (.ireturn, 1) := by decide +kernel
theorem dX3_clauseOf_125 : decode cX3_clauseOf 125 = .ok (.aload_n 0, 1) := by decide +kernel
theorem dX3_clauseOf_126 : decode cX3_clauseOf 126 = .ok (.getfield 10, 3) := by decide +kernel
theorem dX3_clauseOf_129 : decode cX3_clauseOf 129 = .ok (.getfield 87, 3) := by decide +kernel
theorem dX3_clauseOf_132 : decode cX3_clauseOf 132 = .ok (.iload_n 1, 1) := by decide +kernel
theorem dX3_clauseOf_133 : decode cX3_clauseOf 133 = .ok (.invokestatic 71, 3) := by decide +kernel
theorem dX3_clauseOf_136 : decode cX3_clauseOf 136 = .ok (.invokestatic 81, 3) := by decide +kernel
theorem dX3_clauseOf_139 : decode cX3_clauseOf 139 = .ok (.ireturn, 1) := by decide +kernel
theorem dX3_clauseOf_140 : decode cX3_clauseOf 140 = .ok (.aload_n 0, 1) := by decide +kernel
theorem dX3_clauseOf_141 : decode cX3_clauseOf 141 = .ok (.getfield 10, 3) := by decide +kernel
theorem dX3_clauseOf_144 : decode cX3_clauseOf 144 = .ok (.getfield 90, 3) := by decide +kernel
theorem dX3_clauseOf_147 : decode cX3_clauseOf 147 = .ok (.iload_n 1, 1) := by decide +kernel
theorem dX3_clauseOf_148 : decode cX3_clauseOf 148 = .ok (.invokestatic 71, 3) := by decide +kernel
theorem dX3_clauseOf_151 : decode cX3_clauseOf 151 = .ok (.invokestatic 81, 3) := by decide +kernel
theorem dX3_clauseOf_154 : decode cX3_clauseOf 154 = .ok (.ireturn, 1) := by decide +kernel
theorem dX3_clauseOf_155 : decode cX3_clauseOf 155 = .ok (.aload_n 0, 1) := by decide +kernel
theorem dX3_clauseOf_156 : decode cX3_clauseOf 156 = .ok (.getfield 10, 3) := by decide +kernel
theorem dX3_clauseOf_159 : decode cX3_clauseOf 159 = .ok (.getfield 67, 3) := by decide +kernel
theorem dX3_clauseOf_162 : decode cX3_clauseOf 162 = .ok (.iload_n 1, 1) := by decide +kernel
theorem dX3_clauseOf_163 : decode cX3_clauseOf 163 = .ok (.invokestatic 71, 3) := by decide +kernel
theorem dX3_clauseOf_166 : decode cX3_clauseOf 166 = .ok (.invokestatic 93, 3) := by decide +kernel
theorem dX3_clauseOf_169 : decode cX3_clauseOf 169 = .ok (.ireturn, 1) := by decide +kernel
theorem dX3_clauseOf_170 : decode cX3_clauseOf 170 = .ok (.aload_n 0, 1) := by decide +kernel
theorem dX3_clauseOf_171 : decode cX3_clauseOf 171 = .ok (.getfield 10, 3) := by decide +kernel
theorem dX3_clauseOf_174 : decode cX3_clauseOf 174 = .ok (.iload_n 1, 1) := by decide +kernel
theorem dX3_clauseOf_175 : decode cX3_clauseOf 175 = .ok (.invokevirtual 98, 3) := by decide +kernel
theorem dX3_clauseOf_178 : decode cX3_clauseOf 178 = .ok (.ireturn, 1) := by decide +kernel
theorem dX3_clauseOf_179 : decode cX3_clauseOf 179 = .ok (.aload_n 0, 1) := by decide +kernel
theorem dX3_clauseOf_180 : decode cX3_clauseOf 180 = .ok (.getfield 10, 3) := by decide +kernel
theorem dX3_clauseOf_183 : decode cX3_clauseOf 183 = .ok (.getfield 101, 3) := by decide +kernel
theorem dX3_clauseOf_186 : decode cX3_clauseOf 186 = .ok (.iload_n 1, 1) := by decide +kernel
theorem dX3_clauseOf_187 : decode cX3_clauseOf 187 = .ok (.invokestatic 71, 3) := by decide +kernel
theorem dX3_clauseOf_190 : decode cX3_clauseOf 190 = .ok (.ireturn, 1) := by decide +kernel
theorem dX3_clauseOf_191 : decode cX3_clauseOf 191 = .ok (.ldc 30, 2) := by decide +kernel
theorem dX3_clauseOf_193 : decode cX3_clauseOf 193 = .ok (.ireturn, 1) := by decide +kernel
set_option maxRecDepth 20000 in
theorem ggX3_tree_X1_has : GoodIn wsX3_tree wsX1_has := goodIn_r _ [6, 7, 23, 24, 25, 26, 27, 28, 29, 30, 31, 32, 33, 34, 35] (by decide +kernel) (by decide +kernel)
set_option maxRecDepth 20000 in
theorem gX3_tree_X1_has_n63 : GoodIn wsX3_tree (wsX1_has) := ggX3_tree_X1_has
set_option maxRecDepth 20000 in
theorem ggX3_tree_X1_treeOf : GoodIn wsX3_tree wsX1_treeOf := goodIn_r _ [10, 11, 12, 13, 14, 15, 16, 17, 18, 19, 23, 24, 25, 26, 27, 28, 29, 30, 31, 32, 33, 34, 35] (by decide +kernel) (by decide +kernel)
set_option maxRecDepth 20000 in
theorem gX3_tree_X1_treeOf_n104 : GoodIn wsX3_tree (wsX1_treeOf) := ggX3_tree_X1_treeOf
theorem dX3_tree_0 : decode cX3_tree 0 = .ok (.aload_n 0, 1) := by decide +kernel
theorem dX3_tree_1 : decode cX3_tree 1 = .ok (.getfield 10, 3) := by decide +kernel
theorem dX3_tree_4 : decode cX3_tree 4 = .ok (.iload_n 1, 1) := by decide +kernel
theorem dX3_tree_5 : decode cX3_tree 5 = .ok (.invokevirtual 63, 3) := by decide +kernel
theorem dX3_tree_8 : decode cX3_tree 8 = .ok (.ifCond .eq 14, 3) := by decide +kernel
theorem dX3_tree_11 : decode cX3_tree 11 = .ok (.aload_n 0, 1) := by decide +kernel
theorem dX3_tree_12 : decode cX3_tree 12 = .ok (.getfield 10, 3) := by decide +kernel
theorem dX3_tree_15 : decode cX3_tree 15 = .ok (.iload_n 1, 1) := by decide +kernel
theorem dX3_tree_16 : decode cX3_tree 16 = .ok (.invokevirtual 104, 3) := by decide +kernel
theorem dX3_tree_19 : decode cX3_tree 19 = .ok (.goto 6, 3) := by decide +kernel
theorem dX3_tree_22 : decode cX3_tree 22 = .ok (.ldc2_w 108, 3) := by decide +kernel
theorem dX3_tree_25 : decode cX3_tree 25 = .ok (.lreturn, 1) := by decide +kernel
set_option maxRecDepth 20000 in
theorem ggX3_refutation_X1_emptyClause : GoodIn wsX3_refutation wsX1_emptyClause := goodIn_r _ [5, 6, 7, 8, 9, 10, 18, 19, 20, 21, 22, 23, 24, 25, 26, 27, 28, 29, 30] (by decide +kernel) (by decide +kernel)
set_option maxRecDepth 20000 in
theorem gX3_refutation_X1_emptyClause_n114 : GoodIn wsX3_refutation (wsX1_emptyClause) := ggX3_refutation_X1_emptyClause
set_option maxRecDepth 20000 in
theorem ggX3_refutation_X3_foundOrNot : GoodIn wsX3_refutation wsX3_foundOrNot := goodIn_r _ [13, 14] (by decide +kernel) (by decide +kernel)
set_option maxRecDepth 20000 in
theorem gX3_refutation_X3_foundOrNot : GoodIn wsX3_refutation (va_wsS RX3 81 yX3_foundOrNot wsX3_foundOrNot) := goodIn_app (goodIn_of _ (by decide +kernel)) ggX3_refutation_X3_foundOrNot
theorem dX3_refutation_0 : decode cX3_refutation 0 = .ok (.aload_n 0, 1) := by decide +kernel
theorem dX3_refutation_1 : decode cX3_refutation 1 = .ok (.getfield 10, 3) := by decide +kernel
theorem dX3_refutation_4 : decode cX3_refutation 4 = .ok (.invokevirtual 114, 3) := by decide +kernel
theorem dX3_refutation_7 : decode cX3_refutation 7 = .ok (.invokestatic 81, 3) := by decide +kernel
theorem dX3_refutation_10 : decode cX3_refutation 10 = .ok (.ireturn, 1) := by decide +kernel
set_option maxRecDepth 20000 in
theorem ggX3_models_X1_toldClauses : GoodIn wsX3_models wsX1_toldClauses := goodIn_r _ [5, 6, 7, 8, 9, 3, 10, 11, 12, 13, 14, 15, 16, 36, 37, 38, 39, 40, 41, 42, 43, 44, 45, 46, 47, 48] (by decide +kernel) (by decide +kernel)
set_option maxRecDepth 20000 in
theorem gX3_models_X1_toldClauses_n117 : GoodIn wsX3_models (wsX1_toldClauses) := ggX3_models_X1_toldClauses
set_option maxRecDepth 20000 in
theorem ggX3_models_X1_valuesFulfilling : GoodIn wsX3_models wsX1_valuesFulfilling := goodIn_r _ [19, 20, 6, 21, 22, 13, 23, 24, 25, 36, 37, 38, 39, 40, 41, 42, 43, 44, 45, 46, 47, 48] (by decide +kernel) (by decide +kernel)
set_option maxRecDepth 20000 in
theorem gX3_models_X1_valuesFulfilling_n121 : GoodIn wsX3_models (wsX1_valuesFulfilling) := ggX3_models_X1_valuesFulfilling
set_option maxRecDepth 20000 in
theorem ggX3_models_J13_bitCount_95d88 : GoodIn wsX3_models wsJ13_bitCount_95d88 := goodIn_r _ [29, 30, 31, 32] (by decide +kernel) (by decide +kernel)
set_option maxRecDepth 20000 in
theorem gX3_models_J13_bitCount_95d88 : GoodIn wsX3_models (va_wsS RX3 125 yJ13_bitCount_95d88 wsJ13_bitCount_95d88) := goodIn_app (goodIn_of _ (by decide +kernel)) ggX3_models_J13_bitCount_95d88

theorem dX3_setOf_0 : decode cX3_setOf 0 = .ok (.iload_n 0, 1) := by decide +kernel
theorem dX3_setOf_1 : decode cX3_setOf 1 = .ok (.ifCond .ge 7, 3) := by decide +kernel
theorem dX3_setOf_4 : decode cX3_setOf 4 = .ok (.lconst 0, 1) := by decide +kernel
theorem dX3_setOf_5 : decode cX3_setOf 5 = .ok (.goto 6, 3) := by decide +kernel
theorem dX3_setOf_8 : decode cX3_setOf 8 = .ok (.lconst 1, 1) := by decide +kernel
theorem dX3_setOf_9 : decode cX3_setOf 9 = .ok (.iload_n 0, 1) := by decide +kernel
theorem dX3_setOf_10 : decode cX3_setOf 10 = .ok (.lshl, 1) := by decide +kernel
theorem dX3_setOf_11 : decode cX3_setOf 11 = .ok (.lreturn, 1) := by decide +kernel
theorem dX3_isWithin_0 : decode cX3_isWithin 0 = .ok (.iload_n 0, 1) := by decide +kernel
theorem dX3_isWithin_1 : decode cX3_isWithin 1 = .ok (.iload_n 1, 1) := by decide +kernel
theorem dX3_isWithin_2 : decode cX3_isWithin 2 = .ok (.iconst (-1), 1) := by decide +kernel
theorem dX3_isWithin_3 : decode cX3_isWithin 3 = .ok (.ixor, 1) := by decide +kernel
theorem dX3_isWithin_4 : decode cX3_isWithin 4 = .ok (.iand, 1) := by decide +kernel
theorem dX3_isWithin_5 : decode cX3_isWithin 5 = .ok (.ifCond .ne 7, 3) := by decide +kernel
theorem dX3_isWithin_8 : decode cX3_isWithin 8 = .ok (.iconst 1, 1) := by decide +kernel
theorem dX3_isWithin_9 : decode cX3_isWithin 9 = .ok (.goto 4, 3) := by decide +kernel
theorem dX3_isWithin_12 : decode cX3_isWithin 12 = .ok (.iconst 0, 1) := by decide +kernel
theorem dX3_isWithin_13 : decode cX3_isWithin 13 = .ok (.ireturn, 1) := by decide +kernel
theorem dX3_holdsAlways_0 : decode cX3_holdsAlways 0 = .ok (.iload_n 0, 1) := by decide +kernel
theorem dX3_holdsAlways_1 : decode cX3_holdsAlways 1 = .ok (.iload_n 0, 1) := by decide +kernel
theorem dX3_holdsAlways_2 : decode cX3_holdsAlways 2 = .ok (.iconst 1, 1) := by decide +kernel
theorem dX3_holdsAlways_3 : decode cX3_holdsAlways 3 = .ok (.ishr, 1) := by decide +kernel
theorem dX3_holdsAlways_4 : decode cX3_holdsAlways 4 = .ok (.iand, 1) := by decide +kernel
theorem dX3_holdsAlways_5 : decode cX3_holdsAlways 5 = .ok (.sipush 1365, 3) := by decide +kernel
theorem dX3_holdsAlways_8 : decode cX3_holdsAlways 8 = .ok (.iand, 1) := by decide +kernel
theorem dX3_holdsAlways_9 : decode cX3_holdsAlways 9 = .ok (.ifCond .eq 7, 3) := by decide +kernel
theorem dX3_holdsAlways_12 : decode cX3_holdsAlways 12 = .ok (.iconst 1, 1) := by decide +kernel
theorem dX3_holdsAlways_13 : decode cX3_holdsAlways 13 = .ok (.goto 4, 3) := by decide +kernel
theorem dX3_holdsAlways_16 : decode cX3_holdsAlways 16 = .ok (.iconst 0, 1) := by decide +kernel
theorem dX3_holdsAlways_17 : decode cX3_holdsAlways 17 = .ok (.ireturn, 1) := by decide +kernel
set_option maxRecDepth 20000 in
theorem ggX3_valuesOfClause_X3_longAt : GoodIn wsX3_valuesOfClause wsX3_longAt := goodIn_r _ [6] (by decide +kernel) (by decide +kernel)
set_option maxRecDepth 20000 in
theorem gX3_valuesOfClause_X3_longAt : GoodIn wsX3_valuesOfClause (va_wsS RX3 208 yX3_longAt wsX3_longAt) := goodIn_app (goodIn_of _ (by decide +kernel)) ggX3_valuesOfClause_X3_longAt
theorem dX3_valuesOfClause_0 : decode cX3_valuesOfClause 0 = .ok (.lconst 0, 1) := by decide +kernel
theorem dX3_valuesOfClause_1 : decode cX3_valuesOfClause 1 = .ok (.lstore_n 1, 1) := by decide +kernel
theorem dX3_valuesOfClause_2 : decode cX3_valuesOfClause 2 = .ok (.iconst 0, 1) := by decide +kernel
theorem dX3_valuesOfClause_3 : decode cX3_valuesOfClause 3 = .ok (.istore_n 3, 1) := by decide +kernel
theorem dX3_valuesOfClause_4 : decode cX3_valuesOfClause 4 = .ok (.iload_n 3, 1) := by decide +kernel
theorem dX3_valuesOfClause_5 : decode cX3_valuesOfClause 5 = .ok (.bipush 6, 2) := by decide +kernel
theorem dX3_valuesOfClause_7 : decode cX3_valuesOfClause 7 = .ok (.if_icmp .ge 63, 3) := by decide +kernel
theorem dX3_valuesOfClause_10 : decode cX3_valuesOfClause 10 = .ok (.iload_n 0, 1) := by decide +kernel
theorem dX3_valuesOfClause_11 : decode cX3_valuesOfClause 11 = .ok (.iconst 2, 1) := by decide +kernel
theorem dX3_valuesOfClause_12 : decode cX3_valuesOfClause 12 = .ok (.iload_n 3, 1) := by decide +kernel
theorem dX3_valuesOfClause_13 : decode cX3_valuesOfClause 13 = .ok (.imul, 1) := by decide +kernel
theorem dX3_valuesOfClause_14 : decode cX3_valuesOfClause 14 = .ok (.ishr, 1) := by decide +kernel
theorem dX3_valuesOfClause_15 : decode cX3_valuesOfClause 15 = .ok (.iconst 3, 1) := by decide +kernel
theorem dX3_valuesOfClause_16 : decode cX3_valuesOfClause 16 = .ok (.iand, 1) := by decide +kernel
theorem dX3_valuesOfClause_17 : decode cX3_valuesOfClause 17 = .ok (.istore 4, 2) := by decide +kernel
theorem dX3_valuesOfClause_19 : decode cX3_valuesOfClause 19 = .ok (.getstatic 204, 3) := by decide +kernel
theorem dX3_valuesOfClause_22 : decode cX3_valuesOfClause 22 = .ok (.iload_n 3, 1) := by decide +kernel
theorem dX3_valuesOfClause_23 : decode cX3_valuesOfClause 23 = .ok (.invokestatic 208, 3) := by decide +kernel
theorem dX3_valuesOfClause_26 : decode cX3_valuesOfClause 26 = .ok (.lstore 5, 2) := by decide +kernel
theorem dX3_valuesOfClause_28 : decode cX3_valuesOfClause 28 = .ok (.lload_n 1, 1) := by decide +kernel
theorem dX3_valuesOfClause_29 : decode cX3_valuesOfClause 29 = .ok (.iload 4, 2) := by decide +kernel
theorem dX3_valuesOfClause_31 : decode cX3_valuesOfClause 31 = .ok (.iconst 1, 1) := by decide +kernel
theorem dX3_valuesOfClause_32 : decode cX3_valuesOfClause 32 = .ok (.iand, 1) := by decide +kernel
theorem dX3_valuesOfClause_33 : decode cX3_valuesOfClause 33 = .ok (.ifCond .eq 8, 3) := by decide +kernel
theorem dX3_valuesOfClause_36 : decode cX3_valuesOfClause 36 = .ok (.lload 5, 2) := by decide +kernel
theorem dX3_valuesOfClause_38 : decode cX3_valuesOfClause 38 = .ok (.goto 4, 3) := by decide +kernel
theorem dX3_valuesOfClause_41 : decode cX3_valuesOfClause 41 = .ok (.lconst 0, 1) := by decide +kernel
theorem dX3_valuesOfClause_42 : decode cX3_valuesOfClause 42 = .ok (.lor, 1) := by decide +kernel
theorem dX3_valuesOfClause_43 : decode cX3_valuesOfClause 43 = .ok (.lstore_n 1, 1) := by decide +kernel
theorem dX3_valuesOfClause_44 : decode cX3_valuesOfClause 44 = .ok (.lload_n 1, 1) := by decide +kernel
theorem dX3_valuesOfClause_45 : decode cX3_valuesOfClause 45 = .ok (.iload 4, 2) := by decide +kernel
theorem dX3_valuesOfClause_47 : decode cX3_valuesOfClause 47 = .ok (.iconst 2, 1) := by decide +kernel
theorem dX3_valuesOfClause_48 : decode cX3_valuesOfClause 48 = .ok (.iand, 1) := by decide +kernel
theorem dX3_valuesOfClause_49 : decode cX3_valuesOfClause 49 = .ok (.ifCond .eq 12, 3) := by decide +kernel
theorem dX3_valuesOfClause_52 : decode cX3_valuesOfClause 52 = .ok (.lload 5, 2) := by decide +kernel
theorem dX3_valuesOfClause_54 : decode cX3_valuesOfClause 54 = .ok (.ldc2_w 145, 3) := by decide +kernel
theorem dX3_valuesOfClause_57 : decode cX3_valuesOfClause 57 = .ok (.lxor, 1) := by decide +kernel
theorem dX3_valuesOfClause_58 : decode cX3_valuesOfClause 58 = .ok (.goto 4, 3) := by decide +kernel
theorem dX3_valuesOfClause_61 : decode cX3_valuesOfClause 61 = .ok (.lconst 0, 1) := by decide +kernel
theorem dX3_valuesOfClause_62 : decode cX3_valuesOfClause 62 = .ok (.lor, 1) := by decide +kernel
theorem dX3_valuesOfClause_63 : decode cX3_valuesOfClause 63 = .ok (.lstore_n 1, 1) := by decide +kernel
theorem dX3_valuesOfClause_64 : decode cX3_valuesOfClause 64 = .ok (.iinc 3 1, 3) := by decide +kernel
theorem dX3_valuesOfClause_67 : decode cX3_valuesOfClause 67 = .ok (.goto (-63), 3) := by decide +kernel
theorem dX3_valuesOfClause_70 : decode cX3_valuesOfClause 70 = .ok (.lload_n 1, 1) := by decide +kernel
theorem dX3_valuesOfClause_71 : decode cX3_valuesOfClause 71 = .ok (.lreturn, 1) := by decide +kernel
theorem dX3_floatBitsOf64ths_0 : decode cX3_floatBitsOf64ths 0 = .ok (.iload_n 0, 1) := by decide +kernel
theorem dX3_floatBitsOf64ths_1 : decode cX3_floatBitsOf64ths 1 = .ok (.ifCond .gt 5, 3) := by decide +kernel
theorem dX3_floatBitsOf64ths_4 : decode cX3_floatBitsOf64ths 4 = .ok (.iconst 0, 1) := by decide +kernel
theorem dX3_floatBitsOf64ths_5 : decode cX3_floatBitsOf64ths 5 = .ok (.ireturn, 1) := by decide +kernel
theorem dX3_floatBitsOf64ths_6 : decode cX3_floatBitsOf64ths 6 = .ok (.iconst 0, 1) := by decide +kernel
theorem dX3_floatBitsOf64ths_7 : decode cX3_floatBitsOf64ths 7 = .ok (.istore_n 1, 1) := by decide +kernel
theorem dX3_floatBitsOf64ths_8 : decode cX3_floatBitsOf64ths 8 = .ok (.iconst 1, 1) := by decide +kernel
theorem dX3_floatBitsOf64ths_9 : decode cX3_floatBitsOf64ths 9 = .ok (.istore_n 2, 1) := by decide +kernel
theorem dX3_floatBitsOf64ths_10 : decode cX3_floatBitsOf64ths 10 = .ok (.iload_n 2, 1) := by decide +kernel
theorem dX3_floatBitsOf64ths_11 : decode cX3_floatBitsOf64ths 11 = .ok (.bipush 6, 2) := by decide +kernel
theorem dX3_floatBitsOf64ths_13 : decode cX3_floatBitsOf64ths 13 = .ok (.if_icmp .gt 21, 3) := by decide +kernel
theorem dX3_floatBitsOf64ths_16 : decode cX3_floatBitsOf64ths 16 = .ok (.iload_n 0, 1) := by decide +kernel
theorem dX3_floatBitsOf64ths_17 : decode cX3_floatBitsOf64ths 17 = .ok (.iload_n 2, 1) := by decide +kernel
theorem dX3_floatBitsOf64ths_18 : decode cX3_floatBitsOf64ths 18 = .ok (.ishr, 1) := by decide +kernel
theorem dX3_floatBitsOf64ths_19 : decode cX3_floatBitsOf64ths 19 = .ok (.ifCond .eq 7, 3) := by decide +kernel
theorem dX3_floatBitsOf64ths_22 : decode cX3_floatBitsOf64ths 22 = .ok (.iload_n 2, 1) := by decide +kernel
theorem dX3_floatBitsOf64ths_23 : decode cX3_floatBitsOf64ths 23 = .ok (.goto 4, 3) := by decide +kernel
theorem dX3_floatBitsOf64ths_26 : decode cX3_floatBitsOf64ths 26 = .ok (.iload_n 1, 1) := by decide +kernel
theorem dX3_floatBitsOf64ths_27 : decode cX3_floatBitsOf64ths 27 = .ok (.istore_n 1, 1) := by decide +kernel
theorem dX3_floatBitsOf64ths_28 : decode cX3_floatBitsOf64ths 28 = .ok (.iinc 2 1, 3) := by decide +kernel
theorem dX3_floatBitsOf64ths_31 : decode cX3_floatBitsOf64ths 31 = .ok (.goto (-21), 3) := by decide +kernel
theorem dX3_floatBitsOf64ths_34 : decode cX3_floatBitsOf64ths 34 = .ok (.bipush 127, 2) := by decide +kernel
theorem dX3_floatBitsOf64ths_36 : decode cX3_floatBitsOf64ths 36 = .ok (.iload_n 1, 1) := by decide +kernel
theorem dX3_floatBitsOf64ths_37 : decode cX3_floatBitsOf64ths 37 = .ok (.iadd, 1) := by decide +kernel
theorem dX3_floatBitsOf64ths_38 : decode cX3_floatBitsOf64ths 38 = .ok (.bipush 6, 2) := by decide +kernel
theorem dX3_floatBitsOf64ths_40 : decode cX3_floatBitsOf64ths 40 = .ok (.isub, 1) := by decide +kernel
theorem dX3_floatBitsOf64ths_41 : decode cX3_floatBitsOf64ths 41 = .ok (.istore_n 2, 1) := by decide +kernel
theorem dX3_floatBitsOf64ths_42 : decode cX3_floatBitsOf64ths 42 = .ok (.iload_n 2, 1) := by decide +kernel
theorem dX3_floatBitsOf64ths_43 : decode cX3_floatBitsOf64ths 43 = .ok (.bipush 23, 2) := by decide +kernel
theorem dX3_floatBitsOf64ths_45 : decode cX3_floatBitsOf64ths 45 = .ok (.ishl, 1) := by decide +kernel
theorem dX3_floatBitsOf64ths_46 : decode cX3_floatBitsOf64ths 46 = .ok (.iload_n 0, 1) := by decide +kernel
theorem dX3_floatBitsOf64ths_47 : decode cX3_floatBitsOf64ths 47 = .ok (.bipush 23, 2) := by decide +kernel
theorem dX3_floatBitsOf64ths_49 : decode cX3_floatBitsOf64ths 49 = .ok (.iload_n 1, 1) := by decide +kernel
theorem dX3_floatBitsOf64ths_50 : decode cX3_floatBitsOf64ths 50 = .ok (.isub, 1) := by decide +kernel
theorem dX3_floatBitsOf64ths_51 : decode cX3_floatBitsOf64ths 51 = .ok (.ishl, 1) := by decide +kernel
theorem dX3_floatBitsOf64ths_52 : decode cX3_floatBitsOf64ths 52 = .ok (.ldc 212, 2) := by decide +kernel
theorem dX3_floatBitsOf64ths_54 : decode cX3_floatBitsOf64ths 54 = .ok (.iand, 1) := by decide +kernel
theorem dX3_floatBitsOf64ths_55 : decode cX3_floatBitsOf64ths 55 = .ok (.ior, 1) := by decide +kernel
theorem dX3_floatBitsOf64ths_56 : decode cX3_floatBitsOf64ths 56 = .ok (.ireturn, 1) := by decide +kernel
theorem dX4_init_0 : decode cX4_init 0 = .ok (.aload_n 0, 1) := by decide +kernel
theorem dX4_init_1 : decode cX4_init 1 = .ok (.invokespecial 1, 3) := by decide +kernel
theorem dX4_init_4 : decode cX4_init 4 = .ok (.aload_n 0, 1) := by decide +kernel
theorem dX4_init_5 : decode cX4_init 5 = .ok (.sipush 251, 3) := by decide +kernel
theorem dX4_init_8 : decode cX4_init 8 = .ok (.newarray .int, 2) := by decide +kernel
theorem dX4_init_10 : decode cX4_init 10 = .ok (.putfield 7, 3) := by decide +kernel
theorem dX4_init_13 : decode cX4_init 13 = .ok (.aload_n 0, 1) := by decide +kernel
theorem dX4_init_14 : decode cX4_init 14 = .ok (.sipush 251, 3) := by decide +kernel
theorem dX4_init_17 : decode cX4_init 17 = .ok (.newarray .int, 2) := by decide +kernel
theorem dX4_init_19 : decode cX4_init 19 = .ok (.putfield 13, 3) := by decide +kernel
theorem dX4_init_22 : decode cX4_init 22 = .ok (.aload_n 0, 1) := by decide +kernel
theorem dX4_init_23 : decode cX4_init 23 = .ok (.sipush 1004, 3) := by decide +kernel
theorem dX4_init_26 : decode cX4_init 26 = .ok (.newarray .int, 2) := by decide +kernel
theorem dX4_init_28 : decode cX4_init 28 = .ok (.putfield 16, 3) := by decide +kernel
theorem dX4_init_31 : decode cX4_init 31 = .ok (.aload_n 0, 1) := by decide +kernel
theorem dX4_init_32 : decode cX4_init 32 = .ok (.bipush 60, 2) := by decide +kernel
theorem dX4_init_34 : decode cX4_init 34 = .ok (.newarray .int, 2) := by decide +kernel
theorem dX4_init_36 : decode cX4_init 36 = .ok (.putfield 19, 3) := by decide +kernel
theorem dX4_init_39 : decode cX4_init 39 = .ok (.aload_n 0, 1) := by decide +kernel
theorem dX4_init_40 : decode cX4_init 40 = .ok (.getfield 7, 3) := by decide +kernel
theorem dX4_init_43 : decode cX4_init 43 = .ok (.iconst 2, 1) := by decide +kernel
theorem dX4_init_44 : decode cX4_init 44 = .ok (.iconst 4, 1) := by decide +kernel
theorem dX4_init_45 : decode cX4_init 45 = .ok (.iastore, 1) := by decide +kernel
theorem dX4_init_46 : decode cX4_init 46 = .ok (.iconst 0, 1) := by decide +kernel
theorem dX4_init_47 : decode cX4_init 47 = .ok (.istore_n 1, 1) := by decide +kernel
theorem dX4_init_48 : decode cX4_init 48 = .ok (.iload_n 1, 1) := by decide +kernel
theorem dX4_init_49 : decode cX4_init 49 = .ok (.bipush 6, 2) := by decide +kernel
theorem dX4_init_51 : decode cX4_init 51 = .ok (.if_icmp .ge 18, 3) := by decide +kernel
theorem dX4_init_54 : decode cX4_init 54 = .ok (.aload_n 0, 1) := by decide +kernel
theorem dX4_init_55 : decode cX4_init 55 = .ok (.getfield 7, 3) := by decide +kernel
theorem dX4_init_58 : decode cX4_init 58 = .ok (.iconst 5, 1) := by decide +kernel
theorem dX4_init_59 : decode cX4_init 59 = .ok (.iload_n 1, 1) := by decide +kernel
theorem dX4_init_60 : decode cX4_init 60 = .ok (.iadd, 1) := by decide +kernel
theorem dX4_init_61 : decode cX4_init 61 = .ok (.iload_n 1, 1) := by decide +kernel
theorem dX4_init_62 : decode cX4_init 62 = .ok (.iastore, 1) := by decide +kernel
theorem dX4_init_63 : decode cX4_init 63 = .ok (.iinc 1 1, 3) := by decide +kernel
theorem dX4_init_66 : decode cX4_init 66 = .ok (.goto (-18), 3) := by decide +kernel
theorem dX4_init_69 : decode cX4_init 69 = .ok (.return_, 1) := by decide +kernel
theorem dX4_in_0 : decode cX4_in 0 = .ok (.iload_n 0, 1) := by decide +kernel
theorem dX4_in_1 : decode cX4_in 1 = .ok (.iload_n 1, 1) := by decide +kernel
theorem dX4_in_2 : decode cX4_in 2 = .ok (.if_icmp .lt 12, 3) := by decide +kernel
theorem dX4_in_5 : decode cX4_in 5 = .ok (.iload_n 0, 1) := by decide +kernel
theorem dX4_in_6 : decode cX4_in 6 = .ok (.iload_n 2, 1) := by decide +kernel
theorem dX4_in_7 : decode cX4_in 7 = .ok (.if_icmp .gt 7, 3) := by decide +kernel
theorem dX4_in_10 : decode cX4_in 10 = .ok (.iconst 1, 1) := by decide +kernel
theorem dX4_in_11 : decode cX4_in 11 = .ok (.goto 4, 3) := by decide +kernel
theorem dX4_in_14 : decode cX4_in 14 = .ok (.iconst 0, 1) := by decide +kernel
theorem dX4_in_15 : decode cX4_in 15 = .ok (.ireturn, 1) := by decide +kernel
theorem dX4_begins_0 : decode cX4_begins 0 = .ok (.iconst 0, 1) := by decide +kernel
theorem dX4_begins_1 : decode cX4_begins 1 = .ok (.istore_n 1, 1) := by decide +kernel
theorem dX4_begins_2 : decode cX4_begins 2 = .ok (.iload_n 1, 1) := by decide +kernel
theorem dX4_begins_3 : decode cX4_begins 3 = .ok (.sipush 251, 3) := by decide +kernel
theorem dX4_begins_6 : decode cX4_begins 6 = .ok (.if_icmp .ge 21, 3) := by decide +kernel
theorem dX4_begins_9 : decode cX4_begins 9 = .ok (.aload_n 0, 1) := by decide +kernel
theorem dX4_begins_10 : decode cX4_begins 10 = .ok (.getfield 13, 3) := by decide +kernel
theorem dX4_begins_13 : decode cX4_begins 13 = .ok (.iload_n 1, 1) := by decide +kernel
theorem dX4_begins_14 : decode cX4_begins 14 = .ok (.aload_n 0, 1) := by decide +kernel
theorem dX4_begins_15 : decode cX4_begins 15 = .ok (.getfield 7, 3) := by decide +kernel
theorem dX4_begins_18 : decode cX4_begins 18 = .ok (.iload_n 1, 1) := by decide +kernel
theorem dX4_begins_19 : decode cX4_begins 19 = .ok (.iaload, 1) := by decide +kernel
theorem dX4_begins_20 : decode cX4_begins 20 = .ok (.iastore, 1) := by decide +kernel
theorem dX4_begins_21 : decode cX4_begins 21 = .ok (.iinc 1 1, 3) := by decide +kernel
theorem dX4_begins_24 : decode cX4_begins 24 = .ok (.goto (-22), 3) := by decide +kernel
theorem dX4_begins_27 : decode cX4_begins 27 = .ok (.return_, 1) := by decide +kernel
theorem dX4_returns_0 : decode cX4_returns 0 = .ok (.iconst 0, 1) := by decide +kernel
theorem dX4_returns_1 : decode cX4_returns 1 = .ok (.istore_n 1, 1) := by decide +kernel
theorem dX4_returns_2 : decode cX4_returns 2 = .ok (.iload_n 1, 1) := by decide +kernel
theorem dX4_returns_3 : decode cX4_returns 3 = .ok (.sipush 251, 3) := by decide +kernel
theorem dX4_returns_6 : decode cX4_returns 6 = .ok (.if_icmp .ge 21, 3) := by decide +kernel
theorem dX4_returns_9 : decode cX4_returns 9 = .ok (.aload_n 0, 1) := by decide +kernel
theorem dX4_returns_10 : decode cX4_returns 10 = .ok (.getfield 7, 3) := by decide +kernel
theorem dX4_returns_13 : decode cX4_returns 13 = .ok (.iload_n 1, 1) := by decide +kernel
theorem dX4_returns_14 : decode cX4_returns 14 = .ok (.aload_n 0, 1) := by decide +kernel
theorem dX4_returns_15 : decode cX4_returns 15 = .ok (.getfield 13, 3) := by decide +kernel
theorem dX4_returns_18 : decode cX4_returns 18 = .ok (.iload_n 1, 1) := by decide +kernel
theorem dX4_returns_19 : decode cX4_returns 19 = .ok (.iaload, 1) := by decide +kernel
theorem dX4_returns_20 : decode cX4_returns 20 = .ok (.iastore, 1) := by decide +kernel
theorem dX4_returns_21 : decode cX4_returns 21 = .ok (.iinc 1 1, 3) := by decide +kernel
theorem dX4_returns_24 : decode cX4_returns 24 = .ok (.goto (-22), 3) := by decide +kernel
theorem dX4_returns_27 : decode cX4_returns 27 = .ok (.return_, 1) := by decide +kernel
set_option maxRecDepth 20000 in
theorem ggX4_acted_X4_returns : GoodIn wsX4_acted wsX4_returns := goodIn_r _ [9, 10, 4, 11, 12, 13, 14, 15, 16, 17, 18] (by decide +kernel) (by decide +kernel)
set_option maxRecDepth 20000 in
theorem gX4_acted_X4_returns : GoodIn wsX4_acted (wsV RX4 23 RX4 yX4_returns wsX4_returns) := goodIn_app (goodIn_of _ (by decide +kernel)) ggX4_acted_X4_returns
theorem dX4_acted_0 : decode cX4_acted 0 = .ok (.iload_n 1, 1) := by decide +kernel
theorem dX4_acted_1 : decode cX4_acted 1 = .ok (.ldc 22, 2) := by decide +kernel
theorem dX4_acted_3 : decode cX4_acted 3 = .ok (.if_icmp .gt 9, 3) := by decide +kernel
theorem dX4_acted_6 : decode cX4_acted 6 = .ok (.aload_n 0, 1) := by decide +kernel
theorem dX4_acted_7 : decode cX4_acted 7 = .ok (.invokevirtual 23, 3) := by decide +kernel
theorem dX4_acted_10 : decode cX4_acted 10 = .ok (.iload_n 1, 1) := by decide +kernel
theorem dX4_acted_11 : decode cX4_acted 11 = .ok (.ireturn, 1) := by decide +kernel
theorem dX4_acted_12 : decode cX4_acted 12 = .ok (.aload_n 0, 1) := by decide +kernel
theorem dX4_acted_13 : decode cX4_acted 13 = .ok (.getfield 26, 3) := by decide +kernel
theorem dX4_acted_16 : decode cX4_acted 16 = .ok (.iconst 4, 1) := by decide +kernel
theorem dX4_acted_17 : decode cX4_acted 17 = .ok (.if_icmp .ne 44, 3) := by decide +kernel
theorem dX4_acted_20 : decode cX4_acted 20 = .ok (.iconst 0, 1) := by decide +kernel
theorem dX4_acted_21 : decode cX4_acted 21 = .ok (.istore_n 2, 1) := by decide +kernel
theorem dX4_acted_22 : decode cX4_acted 22 = .ok (.iload_n 2, 1) := by decide +kernel
theorem dX4_acted_23 : decode cX4_acted 23 = .ok (.sipush 753, 3) := by decide +kernel
theorem dX4_acted_26 : decode cX4_acted 26 = .ok (.if_icmp .ge 25, 3) := by decide +kernel
theorem dX4_acted_29 : decode cX4_acted 29 = .ok (.aload_n 0, 1) := by decide +kernel
theorem dX4_acted_30 : decode cX4_acted 30 = .ok (.getfield 16, 3) := by decide +kernel
theorem dX4_acted_33 : decode cX4_acted 33 = .ok (.iload_n 2, 1) := by decide +kernel
theorem dX4_acted_34 : decode cX4_acted 34 = .ok (.aload_n 0, 1) := by decide +kernel
theorem dX4_acted_35 : decode cX4_acted 35 = .ok (.getfield 16, 3) := by decide +kernel
theorem dX4_acted_38 : decode cX4_acted 38 = .ok (.iload_n 2, 1) := by decide +kernel
theorem dX4_acted_39 : decode cX4_acted 39 = .ok (.sipush 251, 3) := by decide +kernel
theorem dX4_acted_42 : decode cX4_acted 42 = .ok (.iadd, 1) := by decide +kernel
theorem dX4_acted_43 : decode cX4_acted 43 = .ok (.iaload, 1) := by decide +kernel
theorem dX4_acted_44 : decode cX4_acted 44 = .ok (.iastore, 1) := by decide +kernel
theorem dX4_acted_45 : decode cX4_acted 45 = .ok (.iinc 2 1, 3) := by decide +kernel
theorem dX4_acted_48 : decode cX4_acted 48 = .ok (.goto (-26), 3) := by decide +kernel
theorem dX4_acted_51 : decode cX4_acted 51 = .ok (.aload_n 0, 1) := by decide +kernel
theorem dX4_acted_52 : decode cX4_acted 52 = .ok (.dup, 1) := by decide +kernel
theorem dX4_acted_53 : decode cX4_acted 53 = .ok (.getfield 26, 3) := by decide +kernel
theorem dX4_acted_56 : decode cX4_acted 56 = .ok (.iconst 1, 1) := by decide +kernel
theorem dX4_acted_57 : decode cX4_acted 57 = .ok (.isub, 1) := by decide +kernel
theorem dX4_acted_58 : decode cX4_acted 58 = .ok (.putfield 26, 3) := by decide +kernel
theorem dX4_acted_61 : decode cX4_acted 61 = .ok (.iconst 0, 1) := by decide +kernel
theorem dX4_acted_62 : decode cX4_acted 62 = .ok (.istore_n 2, 1) := by decide +kernel
theorem dX4_acted_63 : decode cX4_acted 63 = .ok (.iload_n 2, 1) := by decide +kernel
theorem dX4_acted_64 : decode cX4_acted 64 = .ok (.sipush 251, 3) := by decide +kernel
theorem dX4_acted_67 : decode cX4_acted 67 = .ok (.if_icmp .ge 30, 3) := by decide +kernel
theorem dX4_acted_70 : decode cX4_acted 70 = .ok (.aload_n 0, 1) := by decide +kernel
theorem dX4_acted_71 : decode cX4_acted 71 = .ok (.getfield 16, 3) := by decide +kernel
theorem dX4_acted_74 : decode cX4_acted 74 = .ok (.sipush 251, 3) := by decide +kernel
theorem dX4_acted_77 : decode cX4_acted 77 = .ok (.aload_n 0, 1) := by decide +kernel
theorem dX4_acted_78 : decode cX4_acted 78 = .ok (.getfield 26, 3) := by decide +kernel
theorem dX4_acted_81 : decode cX4_acted 81 = .ok (.imul, 1) := by decide +kernel
theorem dX4_acted_82 : decode cX4_acted 82 = .ok (.iload_n 2, 1) := by decide +kernel
theorem dX4_acted_83 : decode cX4_acted 83 = .ok (.iadd, 1) := by decide +kernel
theorem dX4_acted_84 : decode cX4_acted 84 = .ok (.aload_n 0, 1) := by decide +kernel
theorem dX4_acted_85 : decode cX4_acted 85 = .ok (.getfield 13, 3) := by decide +kernel
theorem dX4_acted_88 : decode cX4_acted 88 = .ok (.iload_n 2, 1) := by decide +kernel
theorem dX4_acted_89 : decode cX4_acted 89 = .ok (.iaload, 1) := by decide +kernel
theorem dX4_acted_90 : decode cX4_acted 90 = .ok (.iastore, 1) := by decide +kernel
theorem dX4_acted_91 : decode cX4_acted 91 = .ok (.iinc 2 1, 3) := by decide +kernel
theorem dX4_acted_94 : decode cX4_acted 94 = .ok (.goto (-31), 3) := by decide +kernel
theorem dX4_acted_97 : decode cX4_acted 97 = .ok (.aload_n 0, 1) := by decide +kernel
theorem dX4_acted_98 : decode cX4_acted 98 = .ok (.dup, 1) := by decide +kernel
theorem dX4_acted_99 : decode cX4_acted 99 = .ok (.getfield 26, 3) := by decide +kernel
theorem dX4_acted_102 : decode cX4_acted 102 = .ok (.iconst 1, 1) := by decide +kernel
theorem dX4_acted_103 : decode cX4_acted 103 = .ok (.iadd, 1) := by decide +kernel
theorem dX4_acted_104 : decode cX4_acted 104 = .ok (.putfield 26, 3) := by decide +kernel
theorem dX4_acted_107 : decode cX4_acted 107 = .ok (.iload_n 1, 1) := by decide +kernel
theorem dX4_acted_108 : decode cX4_acted 108 = .ok (.ireturn, 1) := by decide +kernel
theorem dX4_of_0 : decode cX4_of 0 = .ok (.aload_n 0, 1) := by decide +kernel
theorem dX4_of_1 : decode cX4_of 1 = .ok (.getfield 7, 3) := by decide +kernel
theorem dX4_of_4 : decode cX4_of 4 = .ok (.bipush 11, 2) := by decide +kernel
theorem dX4_of_6 : decode cX4_of 6 = .ok (.bipush 6, 2) := by decide +kernel
theorem dX4_of_8 : decode cX4_of 8 = .ok (.iload_n 1, 1) := by decide +kernel
theorem dX4_of_9 : decode cX4_of 9 = .ok (.imul, 1) := by decide +kernel
theorem dX4_of_10 : decode cX4_of 10 = .ok (.iadd, 1) := by decide +kernel
theorem dX4_of_11 : decode cX4_of 11 = .ok (.iload_n 2, 1) := by decide +kernel
theorem dX4_of_12 : decode cX4_of 12 = .ok (.iadd, 1) := by decide +kernel
theorem dX4_of_13 : decode cX4_of 13 = .ok (.iaload, 1) := by decide +kernel
theorem dX4_of_14 : decode cX4_of 14 = .ok (.ireturn, 1) := by decide +kernel
theorem dX4_puts_0 : decode cX4_puts 0 = .ok (.aload_n 0, 1) := by decide +kernel
theorem dX4_puts_1 : decode cX4_puts 1 = .ok (.getfield 7, 3) := by decide +kernel
theorem dX4_puts_4 : decode cX4_puts 4 = .ok (.bipush 11, 2) := by decide +kernel
theorem dX4_puts_6 : decode cX4_puts 6 = .ok (.bipush 6, 2) := by decide +kernel
theorem dX4_puts_8 : decode cX4_puts 8 = .ok (.iload_n 1, 1) := by decide +kernel
theorem dX4_puts_9 : decode cX4_puts 9 = .ok (.imul, 1) := by decide +kernel
theorem dX4_puts_10 : decode cX4_puts 10 = .ok (.iadd, 1) := by decide +kernel
theorem dX4_puts_11 : decode cX4_puts 11 = .ok (.iload_n 2, 1) := by decide +kernel
theorem dX4_puts_12 : decode cX4_puts 12 = .ok (.iadd, 1) := by decide +kernel
theorem dX4_puts_13 : decode cX4_puts 13 = .ok (.iload_n 3, 1) := by decide +kernel
theorem dX4_puts_14 : decode cX4_puts 14 = .ok (.iastore, 1) := by decide +kernel
theorem dX4_puts_15 : decode cX4_puts 15 = .ok (.return_, 1) := by decide +kernel
set_option maxRecDepth 20000 in
theorem ggX4_isClause_X4_in : GoodIn wsX4_isClause wsX4_in := goodIn_r _ [5] (by decide +kernel) (by decide +kernel)
set_option maxRecDepth 20000 in
theorem gX4_isClause_X4_in : GoodIn wsX4_isClause (va_wsS RX4 30 yX4_in wsX4_in) := goodIn_app (goodIn_of _ (by decide +kernel)) ggX4_isClause_X4_in
theorem dX4_isClause_0 : decode cX4_isClause 0 = .ok (.iload_n 1, 1) := by decide +kernel
theorem dX4_isClause_1 : decode cX4_isClause 1 = .ok (.iconst 0, 1) := by decide +kernel
theorem dX4_isClause_2 : decode cX4_isClause 2 = .ok (.aload_n 0, 1) := by decide +kernel
theorem dX4_isClause_3 : decode cX4_isClause 3 = .ok (.getfield 7, 3) := by decide +kernel
theorem dX4_isClause_6 : decode cX4_isClause 6 = .ok (.iconst 0, 1) := by decide +kernel
theorem dX4_isClause_7 : decode cX4_isClause 7 = .ok (.iaload, 1) := by decide +kernel
theorem dX4_isClause_8 : decode cX4_isClause 8 = .ok (.iconst 1, 1) := by decide +kernel
theorem dX4_isClause_9 : decode cX4_isClause 9 = .ok (.isub, 1) := by decide +kernel
theorem dX4_isClause_10 : decode cX4_isClause 10 = .ok (.invokestatic 30, 3) := by decide +kernel
theorem dX4_isClause_13 : decode cX4_isClause 13 = .ok (.ireturn, 1) := by decide +kernel
set_option maxRecDepth 20000 in
theorem ggX4_isKept_X4_of : GoodIn wsX4_isKept wsX4_of := goodIn_r _ [5, 6, 7, 8, 9, 10, 11, 12, 13, 14] (by decide +kernel) (by decide +kernel)
set_option maxRecDepth 20000 in
theorem gX4_isKept_X4_of : GoodIn wsX4_isKept (wsV RX4 34 RX4 yX4_of wsX4_of) := goodIn_app (goodIn_of _ (by decide +kernel)) ggX4_isKept_X4_of
theorem dX4_isKept_0 : decode cX4_isKept 0 = .ok (.aload_n 0, 1) := by decide +kernel
theorem dX4_isKept_1 : decode cX4_isKept 1 = .ok (.iload_n 1, 1) := by decide +kernel
theorem dX4_isKept_2 : decode cX4_isKept 2 = .ok (.iconst 1, 1) := by decide +kernel
theorem dX4_isKept_3 : decode cX4_isKept 3 = .ok (.invokevirtual 34, 3) := by decide +kernel
theorem dX4_isKept_6 : decode cX4_isKept 6 = .ok (.iconst 2, 1) := by decide +kernel
theorem dX4_isKept_7 : decode cX4_isKept 7 = .ok (.if_icmp .eq 7, 3) := by decide +kernel
theorem dX4_isKept_10 : decode cX4_isKept 10 = .ok (.iconst 1, 1) := by decide +kernel
theorem dX4_isKept_11 : decode cX4_isKept 11 = .ok (.goto 4, 3) := by decide +kernel
theorem dX4_isKept_14 : decode cX4_isKept 14 = .ok (.iconst 0, 1) := by decide +kernel
theorem dX4_isKept_15 : decode cX4_isKept 15 = .ok (.ireturn, 1) := by decide +kernel
theorem dX4_has_0 : decode cX4_has 0 = .ok (.iload_n 0, 1) := by decide +kernel
theorem dX4_has_1 : decode cX4_has 1 = .ok (.iload_n 1, 1) := by decide +kernel
theorem dX4_has_2 : decode cX4_has 2 = .ok (.ishr, 1) := by decide +kernel
theorem dX4_has_3 : decode cX4_has 3 = .ok (.iconst 1, 1) := by decide +kernel
theorem dX4_has_4 : decode cX4_has 4 = .ok (.iand, 1) := by decide +kernel
theorem dX4_has_5 : decode cX4_has 5 = .ok (.iconst 1, 1) := by decide +kernel
theorem dX4_has_6 : decode cX4_has 6 = .ok (.if_icmp .ne 7, 3) := by decide +kernel
theorem dX4_has_9 : decode cX4_has 9 = .ok (.iconst 1, 1) := by decide +kernel
theorem dX4_has_10 : decode cX4_has 10 = .ok (.goto 4, 3) := by decide +kernel
theorem dX4_has_13 : decode cX4_has 13 = .ok (.iconst 0, 1) := by decide +kernel
theorem dX4_has_14 : decode cX4_has 14 = .ok (.ireturn, 1) := by decide +kernel
theorem dX4_ones_0 : decode cX4_ones 0 = .ok (.iconst 0, 1) := by decide +kernel
theorem dX4_ones_1 : decode cX4_ones 1 = .ok (.istore_n 1, 1) := by decide +kernel
theorem dX4_ones_2 : decode cX4_ones 2 = .ok (.iload_n 0, 1) := by decide +kernel
theorem dX4_ones_3 : decode cX4_ones 3 = .ok (.istore_n 2, 1) := by decide +kernel
theorem dX4_ones_4 : decode cX4_ones 4 = .ok (.iload_n 2, 1) := by decide +kernel
theorem dX4_ones_5 : decode cX4_ones 5 = .ok (.ifCond .eq 16, 3) := by decide +kernel
theorem dX4_ones_8 : decode cX4_ones 8 = .ok (.iload_n 1, 1) := by decide +kernel
theorem dX4_ones_9 : decode cX4_ones 9 = .ok (.iload_n 2, 1) := by decide +kernel
theorem dX4_ones_10 : decode cX4_ones 10 = .ok (.iconst 2, 1) := by decide +kernel
theorem dX4_ones_11 : decode cX4_ones 11 = .ok (.irem, 1) := by decide +kernel
theorem dX4_ones_12 : decode cX4_ones 12 = .ok (.iadd, 1) := by decide +kernel
theorem dX4_ones_13 : decode cX4_ones 13 = .ok (.istore_n 1, 1) := by decide +kernel
theorem dX4_ones_14 : decode cX4_ones 14 = .ok (.iload_n 2, 1) := by decide +kernel
theorem dX4_ones_15 : decode cX4_ones 15 = .ok (.iconst 2, 1) := by decide +kernel
theorem dX4_ones_16 : decode cX4_ones 16 = .ok (.idiv, 1) := by decide +kernel
theorem dX4_ones_17 : decode cX4_ones 17 = .ok (.istore_n 2, 1) := by decide +kernel
theorem dX4_ones_18 : decode cX4_ones 18 = .ok (.goto (-14), 3) := by decide +kernel
theorem dX4_ones_21 : decode cX4_ones 21 = .ok (.iload_n 1, 1) := by decide +kernel
theorem dX4_ones_22 : decode cX4_ones 22 = .ok (.ireturn, 1) := by decide +kernel
theorem dX4_keyOf_0 : decode cX4_keyOf 0 = .ok (.iconst 2, 1) := by decide +kernel
theorem dX4_keyOf_1 : decode cX4_keyOf 1 = .ok (.aload_n 0, 1) := by decide +kernel
theorem dX4_keyOf_2 : decode cX4_keyOf 2 = .ok (.getfield 7, 3) := by decide +kernel
theorem dX4_keyOf_5 : decode cX4_keyOf 5 = .ok (.iconst 5, 1) := by decide +kernel
theorem dX4_keyOf_6 : decode cX4_keyOf 6 = .ok (.iload_n 1, 1) := by decide +kernel
theorem dX4_keyOf_7 : decode cX4_keyOf 7 = .ok (.iconst 2, 1) := by decide +kernel
theorem dX4_keyOf_8 : decode cX4_keyOf 8 = .ok (.idiv, 1) := by decide +kernel
theorem dX4_keyOf_9 : decode cX4_keyOf 9 = .ok (.iadd, 1) := by decide +kernel
theorem dX4_keyOf_10 : decode cX4_keyOf 10 = .ok (.iaload, 1) := by decide +kernel
theorem dX4_keyOf_11 : decode cX4_keyOf 11 = .ok (.imul, 1) := by decide +kernel
theorem dX4_keyOf_12 : decode cX4_keyOf 12 = .ok (.iload_n 1, 1) := by decide +kernel
theorem dX4_keyOf_13 : decode cX4_keyOf 13 = .ok (.iconst 2, 1) := by decide +kernel
theorem dX4_keyOf_14 : decode cX4_keyOf 14 = .ok (.irem, 1) := by decide +kernel
theorem dX4_keyOf_15 : decode cX4_keyOf 15 = .ok (.iadd, 1) := by decide +kernel
theorem dX4_keyOf_16 : decode cX4_keyOf 16 = .ok (.ireturn, 1) := by decide +kernel
set_option maxRecDepth 20000 in
theorem ggX4_greatest_X4_has : GoodIn wsX4_greatest wsX4_has := goodIn_r _ [4] (by decide +kernel) (by decide +kernel)
set_option maxRecDepth 20000 in
theorem gX4_greatest_X4_has : GoodIn wsX4_greatest (va_wsS RX4 38 yX4_has wsX4_has) := goodIn_app (goodIn_of _ (by decide +kernel)) ggX4_greatest_X4_has
set_option maxRecDepth 20000 in
theorem ggX4_greatest_X4_keyOf : GoodIn wsX4_greatest wsX4_keyOf := goodIn_r _ [8, 9, 10, 11, 12, 13, 14, 15, 16, 17] (by decide +kernel) (by decide +kernel)
set_option maxRecDepth 20000 in
theorem gX4_greatest_X4_keyOf : GoodIn wsX4_greatest (wsV RX4 42 RX4 yX4_keyOf wsX4_keyOf) := goodIn_app (goodIn_of _ (by decide +kernel)) ggX4_greatest_X4_keyOf
theorem dX4_greatest_0 : decode cX4_greatest 0 = .ok (.iconst (-1), 1) := by decide +kernel
theorem dX4_greatest_1 : decode cX4_greatest 1 = .ok (.istore_n 2, 1) := by decide +kernel
theorem dX4_greatest_2 : decode cX4_greatest 2 = .ok (.iconst 0, 1) := by decide +kernel
theorem dX4_greatest_3 : decode cX4_greatest 3 = .ok (.istore_n 3, 1) := by decide +kernel
theorem dX4_greatest_4 : decode cX4_greatest 4 = .ok (.iload_n 3, 1) := by decide +kernel
theorem dX4_greatest_5 : decode cX4_greatest 5 = .ok (.bipush 12, 2) := by decide +kernel
theorem dX4_greatest_7 : decode cX4_greatest 7 = .ok (.if_icmp .ge 40, 3) := by decide +kernel
theorem dX4_greatest_10 : decode cX4_greatest 10 = .ok (.iload_n 1, 1) := by decide +kernel
theorem dX4_greatest_11 : decode cX4_greatest 11 = .ok (.iload_n 3, 1) := by decide +kernel
theorem dX4_greatest_12 : decode cX4_greatest 12 = .ok (.invokestatic 38, 3) := by decide +kernel
theorem dX4_greatest_15 : decode cX4_greatest 15 = .ok (.ifCond .eq 24, 3) := by decide +kernel
theorem dX4_greatest_18 : decode cX4_greatest 18 = .ok (.iload_n 2, 1) := by decide +kernel
theorem dX4_greatest_19 : decode cX4_greatest 19 = .ok (.ifCond .lt 16, 3) := by decide +kernel
theorem dX4_greatest_22 : decode cX4_greatest 22 = .ok (.aload_n 0, 1) := by decide +kernel
theorem dX4_greatest_23 : decode cX4_greatest 23 = .ok (.iload_n 3, 1) := by decide +kernel
theorem dX4_greatest_24 : decode cX4_greatest 24 = .ok (.invokevirtual 42, 3) := by decide +kernel
theorem dX4_greatest_27 : decode cX4_greatest 27 = .ok (.aload_n 0, 1) := by decide +kernel
theorem dX4_greatest_28 : decode cX4_greatest 28 = .ok (.iload_n 2, 1) := by decide +kernel
theorem dX4_greatest_29 : decode cX4_greatest 29 = .ok (.invokevirtual 42, 3) := by decide +kernel
theorem dX4_greatest_32 : decode cX4_greatest 32 = .ok (.if_icmp .le 7, 3) := by decide +kernel
theorem dX4_greatest_35 : decode cX4_greatest 35 = .ok (.iload_n 3, 1) := by decide +kernel
theorem dX4_greatest_36 : decode cX4_greatest 36 = .ok (.goto 4, 3) := by decide +kernel
theorem dX4_greatest_39 : decode cX4_greatest 39 = .ok (.iload_n 2, 1) := by decide +kernel
theorem dX4_greatest_40 : decode cX4_greatest 40 = .ok (.istore_n 2, 1) := by decide +kernel
theorem dX4_greatest_41 : decode cX4_greatest 41 = .ok (.iinc 3 1, 3) := by decide +kernel
theorem dX4_greatest_44 : decode cX4_greatest 44 = .ok (.goto (-40), 3) := by decide +kernel
theorem dX4_greatest_47 : decode cX4_greatest 47 = .ok (.iload_n 2, 1) := by decide +kernel
theorem dX4_greatest_48 : decode cX4_greatest 48 = .ok (.ireturn, 1) := by decide +kernel
set_option maxRecDepth 20000 in
theorem ggX4_isLess_X4_greatest : GoodIn wsX4_isLess wsX4_greatest := goodIn_r _ [5, 6, 7, 4, 8, 9, 10, 11, 12, 13, 14, 15, 16, 17, 18, 19, 20, 21] (by decide +kernel) (by decide +kernel)
set_option maxRecDepth 20000 in
theorem gX4_isLess_X4_greatest : GoodIn wsX4_isLess (wsV RX4 46 RX4 yX4_greatest wsX4_greatest) := goodIn_app (goodIn_of _ (by decide +kernel)) ggX4_isLess_X4_greatest
set_option maxRecDepth 20000 in
theorem ggX4_isLess_X4_has : GoodIn wsX4_isLess wsX4_has := goodIn_r _ [8] (by decide +kernel) (by decide +kernel)
set_option maxRecDepth 20000 in
theorem gX4_isLess_X4_has : GoodIn wsX4_isLess (va_wsS RX4 38 yX4_has wsX4_has) := goodIn_app (goodIn_of _ (by decide +kernel)) ggX4_isLess_X4_has
theorem dX4_isLess_0 : decode cX4_isLess 0 = .ok (.aload_n 0, 1) := by decide +kernel
theorem dX4_isLess_1 : decode cX4_isLess 1 = .ok (.iload_n 1, 1) := by decide +kernel
theorem dX4_isLess_2 : decode cX4_isLess 2 = .ok (.iload_n 2, 1) := by decide +kernel
theorem dX4_isLess_3 : decode cX4_isLess 3 = .ok (.ixor, 1) := by decide +kernel
theorem dX4_isLess_4 : decode cX4_isLess 4 = .ok (.invokevirtual 46, 3) := by decide +kernel
theorem dX4_isLess_7 : decode cX4_isLess 7 = .ok (.istore_n 3, 1) := by decide +kernel
theorem dX4_isLess_8 : decode cX4_isLess 8 = .ok (.iload_n 3, 1) := by decide +kernel
theorem dX4_isLess_9 : decode cX4_isLess 9 = .ok (.ifCond .lt 15, 3) := by decide +kernel
theorem dX4_isLess_12 : decode cX4_isLess 12 = .ok (.iload_n 2, 1) := by decide +kernel
theorem dX4_isLess_13 : decode cX4_isLess 13 = .ok (.iload_n 3, 1) := by decide +kernel
theorem dX4_isLess_14 : decode cX4_isLess 14 = .ok (.invokestatic 38, 3) := by decide +kernel
theorem dX4_isLess_17 : decode cX4_isLess 17 = .ok (.ifCond .eq 7, 3) := by decide +kernel
theorem dX4_isLess_20 : decode cX4_isLess 20 = .ok (.iconst 1, 1) := by decide +kernel
theorem dX4_isLess_21 : decode cX4_isLess 21 = .ok (.goto 4, 3) := by decide +kernel
theorem dX4_isLess_24 : decode cX4_isLess 24 = .ok (.iconst 0, 1) := by decide +kernel
theorem dX4_isLess_25 : decode cX4_isLess 25 = .ok (.ireturn, 1) := by decide +kernel
theorem dX4_holdsAlways_0 : decode cX4_holdsAlways 0 = .ok (.iconst 0, 1) := by decide +kernel
theorem dX4_holdsAlways_1 : decode cX4_holdsAlways 1 = .ok (.istore_n 1, 1) := by decide +kernel
theorem dX4_holdsAlways_2 : decode cX4_holdsAlways 2 = .ok (.iconst 0, 1) := by decide +kernel
theorem dX4_holdsAlways_3 : decode cX4_holdsAlways 3 = .ok (.istore_n 2, 1) := by decide +kernel
theorem dX4_holdsAlways_4 : decode cX4_holdsAlways 4 = .ok (.iload_n 2, 1) := by decide +kernel
theorem dX4_holdsAlways_5 : decode cX4_holdsAlways 5 = .ok (.bipush 6, 2) := by decide +kernel
theorem dX4_holdsAlways_7 : decode cX4_holdsAlways 7 = .ok (.if_icmp .ge 30, 3) := by decide +kernel
theorem dX4_holdsAlways_10 : decode cX4_holdsAlways 10 = .ok (.iload_n 1, 1) := by decide +kernel
theorem dX4_holdsAlways_11 : decode cX4_holdsAlways 11 = .ok (.ifCond .ne 14, 3) := by decide +kernel
theorem dX4_holdsAlways_14 : decode cX4_holdsAlways 14 = .ok (.iload_n 0, 1) := by decide +kernel
theorem dX4_holdsAlways_15 : decode cX4_holdsAlways 15 = .ok (.iconst 2, 1) := by decide +kernel
theorem dX4_holdsAlways_16 : decode cX4_holdsAlways 16 = .ok (.iload_n 2, 1) := by decide +kernel
theorem dX4_holdsAlways_17 : decode cX4_holdsAlways 17 = .ok (.imul, 1) := by decide +kernel
theorem dX4_holdsAlways_18 : decode cX4_holdsAlways 18 = .ok (.ishr, 1) := by decide +kernel
theorem dX4_holdsAlways_19 : decode cX4_holdsAlways 19 = .ok (.iconst 3, 1) := by decide +kernel
theorem dX4_holdsAlways_20 : decode cX4_holdsAlways 20 = .ok (.iand, 1) := by decide +kernel
theorem dX4_holdsAlways_21 : decode cX4_holdsAlways 21 = .ok (.iconst 3, 1) := by decide +kernel
theorem dX4_holdsAlways_22 : decode cX4_holdsAlways 22 = .ok (.if_icmp .ne 7, 3) := by decide +kernel
theorem dX4_holdsAlways_25 : decode cX4_holdsAlways 25 = .ok (.iconst 1, 1) := by decide +kernel
theorem dX4_holdsAlways_26 : decode cX4_holdsAlways 26 = .ok (.goto 4, 3) := by decide +kernel
theorem dX4_holdsAlways_29 : decode cX4_holdsAlways 29 = .ok (.iconst 0, 1) := by decide +kernel
theorem dX4_holdsAlways_30 : decode cX4_holdsAlways 30 = .ok (.istore_n 1, 1) := by decide +kernel
theorem dX4_holdsAlways_31 : decode cX4_holdsAlways 31 = .ok (.iinc 2 1, 3) := by decide +kernel
theorem dX4_holdsAlways_34 : decode cX4_holdsAlways 34 = .ok (.goto (-30), 3) := by decide +kernel
theorem dX4_holdsAlways_37 : decode cX4_holdsAlways 37 = .ok (.iload_n 1, 1) := by decide +kernel
theorem dX4_holdsAlways_38 : decode cX4_holdsAlways 38 = .ok (.ireturn, 1) := by decide +kernel
set_option maxRecDepth 20000 in
theorem ggX4_hasWithin_X4_isKept : GoodIn wsX4_hasWithin wsX4_isKept := goodIn_r _ [6, 7, 8, 9, 5, 10, 1, 11, 12, 13, 14, 15, 16, 17, 18] (by decide +kernel) (by decide +kernel)
set_option maxRecDepth 20000 in
theorem gX4_hasWithin_X4_isKept : GoodIn wsX4_hasWithin (wsV RX4 49 RX4 yX4_isKept wsX4_isKept) := goodIn_app (goodIn_of _ (by decide +kernel)) ggX4_hasWithin_X4_isKept
set_option maxRecDepth 20000 in
theorem ggX4_hasWithin_X4_of : GoodIn wsX4_hasWithin wsX4_of := goodIn_r _ [10, 1, 11, 12, 13, 14, 15, 16, 17, 18] (by decide +kernel) (by decide +kernel)
set_option maxRecDepth 20000 in
theorem gX4_hasWithin_X4_of : GoodIn wsX4_hasWithin (wsV RX4 34 RX4 yX4_of wsX4_of) := goodIn_app (goodIn_of _ (by decide +kernel)) ggX4_hasWithin_X4_of
theorem dX4_hasWithin_0 : decode cX4_hasWithin 0 = .ok (.iconst 0, 1) := by decide +kernel
theorem dX4_hasWithin_1 : decode cX4_hasWithin 1 = .ok (.istore_n 2, 1) := by decide +kernel
theorem dX4_hasWithin_2 : decode cX4_hasWithin 2 = .ok (.iconst 0, 1) := by decide +kernel
theorem dX4_hasWithin_3 : decode cX4_hasWithin 3 = .ok (.istore_n 3, 1) := by decide +kernel
theorem dX4_hasWithin_4 : decode cX4_hasWithin 4 = .ok (.iload_n 3, 1) := by decide +kernel
theorem dX4_hasWithin_5 : decode cX4_hasWithin 5 = .ok (.aload_n 0, 1) := by decide +kernel
theorem dX4_hasWithin_6 : decode cX4_hasWithin 6 = .ok (.getfield 7, 3) := by decide +kernel
theorem dX4_hasWithin_9 : decode cX4_hasWithin 9 = .ok (.iconst 0, 1) := by decide +kernel
theorem dX4_hasWithin_10 : decode cX4_hasWithin 10 = .ok (.iaload, 1) := by decide +kernel
theorem dX4_hasWithin_11 : decode cX4_hasWithin 11 = .ok (.if_icmp .ge 40, 3) := by decide +kernel
theorem dX4_hasWithin_14 : decode cX4_hasWithin 14 = .ok (.iload_n 2, 1) := by decide +kernel
theorem dX4_hasWithin_15 : decode cX4_hasWithin 15 = .ok (.ifCond .ne 24, 3) := by decide +kernel
theorem dX4_hasWithin_18 : decode cX4_hasWithin 18 = .ok (.aload_n 0, 1) := by decide +kernel
theorem dX4_hasWithin_19 : decode cX4_hasWithin 19 = .ok (.iload_n 3, 1) := by decide +kernel
theorem dX4_hasWithin_20 : decode cX4_hasWithin 20 = .ok (.invokevirtual 49, 3) := by decide +kernel
theorem dX4_hasWithin_23 : decode cX4_hasWithin 23 = .ok (.ifCond .eq 20, 3) := by decide +kernel
theorem dX4_hasWithin_26 : decode cX4_hasWithin 26 = .ok (.aload_n 0, 1) := by decide +kernel
theorem dX4_hasWithin_27 : decode cX4_hasWithin 27 = .ok (.iload_n 3, 1) := by decide +kernel
theorem dX4_hasWithin_28 : decode cX4_hasWithin 28 = .ok (.iconst 0, 1) := by decide +kernel
theorem dX4_hasWithin_29 : decode cX4_hasWithin 29 = .ok (.invokevirtual 34, 3) := by decide +kernel
theorem dX4_hasWithin_32 : decode cX4_hasWithin 32 = .ok (.iload_n 1, 1) := by decide +kernel
theorem dX4_hasWithin_33 : decode cX4_hasWithin 33 = .ok (.iconst (-1), 1) := by decide +kernel
theorem dX4_hasWithin_34 : decode cX4_hasWithin 34 = .ok (.ixor, 1) := by decide +kernel
theorem dX4_hasWithin_35 : decode cX4_hasWithin 35 = .ok (.iand, 1) := by decide +kernel
theorem dX4_hasWithin_36 : decode cX4_hasWithin 36 = .ok (.ifCond .ne 7, 3) := by decide +kernel
theorem dX4_hasWithin_39 : decode cX4_hasWithin 39 = .ok (.iconst 1, 1) := by decide +kernel
theorem dX4_hasWithin_40 : decode cX4_hasWithin 40 = .ok (.goto 4, 3) := by decide +kernel
theorem dX4_hasWithin_43 : decode cX4_hasWithin 43 = .ok (.iconst 0, 1) := by decide +kernel
theorem dX4_hasWithin_44 : decode cX4_hasWithin 44 = .ok (.istore_n 2, 1) := by decide +kernel
theorem dX4_hasWithin_45 : decode cX4_hasWithin 45 = .ok (.iinc 3 1, 3) := by decide +kernel
theorem dX4_hasWithin_48 : decode cX4_hasWithin 48 = .ok (.goto (-44), 3) := by decide +kernel
theorem dX4_hasWithin_51 : decode cX4_hasWithin 51 = .ok (.iload_n 2, 1) := by decide +kernel
theorem dX4_hasWithin_52 : decode cX4_hasWithin 52 = .ok (.ireturn, 1) := by decide +kernel
set_option maxRecDepth 20000 in
theorem ggX4_comes_X4_holdsAlways : GoodIn wsX4_comes wsX4_holdsAlways := goodIn_r _ [6] (by decide +kernel) (by decide +kernel)
set_option maxRecDepth 20000 in
theorem gX4_comes_X4_holdsAlways : GoodIn wsX4_comes (va_wsS RX4 53 yX4_holdsAlways wsX4_holdsAlways) := goodIn_app (goodIn_of _ (by decide +kernel)) ggX4_comes_X4_holdsAlways
set_option maxRecDepth 20000 in
theorem ggX4_comes_X4_hasWithin : GoodIn wsX4_comes wsX4_hasWithin := goodIn_r _ [10, 1, 11, 12, 13, 5, 14, 15, 16, 17, 18, 23, 24, 25, 26, 27, 28, 29, 30] (by decide +kernel) (by decide +kernel)
set_option maxRecDepth 20000 in
theorem gX4_comes_X4_hasWithin : GoodIn wsX4_comes (wsV RX4 56 RX4 yX4_hasWithin wsX4_hasWithin) := goodIn_app (goodIn_of _ (by decide +kernel)) ggX4_comes_X4_hasWithin
set_option maxRecDepth 20000 in
theorem ggX4_comes_X4_of : GoodIn wsX4_comes wsX4_of := goodIn_r _ [18, 1, 23, 24, 25, 26, 27, 28, 29, 30] (by decide +kernel) (by decide +kernel)
set_option maxRecDepth 20000 in
theorem gX4_comes_X4_of : GoodIn wsX4_comes (wsV RX4 34 RX4 yX4_of wsX4_of) := goodIn_app (goodIn_of _ (by decide +kernel)) ggX4_comes_X4_of
set_option maxRecDepth 20000 in
theorem ggX4_comes_X4_puts : GoodIn wsX4_comes wsX4_puts := goodIn_r _ [22, 1, 23, 24, 25, 26, 27, 28, 29, 30] (by decide +kernel) (by decide +kernel)
set_option maxRecDepth 20000 in
theorem gX4_comes_X4_puts : GoodIn wsX4_comes (wsV RX4 60 RX4 yX4_puts wsX4_puts) := goodIn_app (goodIn_of _ (by decide +kernel)) ggX4_comes_X4_puts
theorem dX4_comes_0 : decode cX4_comes 0 = .ok (.iload_n 1, 1) := by decide +kernel
theorem dX4_comes_1 : decode cX4_comes 1 = .ok (.invokestatic 53, 3) := by decide +kernel
theorem dX4_comes_4 : decode cX4_comes 4 = .ok (.ifCond .eq 15, 3) := by decide +kernel
theorem dX4_comes_7 : decode cX4_comes 7 = .ok (.aload_n 0, 1) := by decide +kernel
theorem dX4_comes_8 : decode cX4_comes 8 = .ok (.getfield 7, 3) := by decide +kernel
theorem dX4_comes_11 : decode cX4_comes 11 = .ok (.iconst 3, 1) := by decide +kernel
theorem dX4_comes_12 : decode cX4_comes 12 = .ok (.dup2, 1) := by decide +kernel
theorem dX4_comes_13 : decode cX4_comes 13 = .ok (.iaload, 1) := by decide +kernel
theorem dX4_comes_14 : decode cX4_comes 14 = .ok (.iconst 1, 1) := by decide +kernel
theorem dX4_comes_15 : decode cX4_comes 15 = .ok (.iadd, 1) := by decide +kernel
theorem dX4_comes_16 : decode cX4_comes 16 = .ok (.iastore, 1) := by decide +kernel
theorem dX4_comes_17 : decode cX4_comes 17 = .ok (.iconst (-1), 1) := by decide +kernel
theorem dX4_comes_18 : decode cX4_comes 18 = .ok (.ireturn, 1) := by decide +kernel
theorem dX4_comes_19 : decode cX4_comes 19 = .ok (.aload_n 0, 1) := by decide +kernel
theorem dX4_comes_20 : decode cX4_comes 20 = .ok (.iload_n 1, 1) := by decide +kernel
theorem dX4_comes_21 : decode cX4_comes 21 = .ok (.invokevirtual 56, 3) := by decide +kernel
theorem dX4_comes_24 : decode cX4_comes 24 = .ok (.ifCond .eq 16, 3) := by decide +kernel
theorem dX4_comes_27 : decode cX4_comes 27 = .ok (.aload_n 0, 1) := by decide +kernel
theorem dX4_comes_28 : decode cX4_comes 28 = .ok (.getfield 7, 3) := by decide +kernel
theorem dX4_comes_31 : decode cX4_comes 31 = .ok (.iconst 4, 1) := by decide +kernel
theorem dX4_comes_32 : decode cX4_comes 32 = .ok (.dup2, 1) := by decide +kernel
theorem dX4_comes_33 : decode cX4_comes 33 = .ok (.iaload, 1) := by decide +kernel
theorem dX4_comes_34 : decode cX4_comes 34 = .ok (.iconst 1, 1) := by decide +kernel
theorem dX4_comes_35 : decode cX4_comes 35 = .ok (.iadd, 1) := by decide +kernel
theorem dX4_comes_36 : decode cX4_comes 36 = .ok (.iastore, 1) := by decide +kernel
theorem dX4_comes_37 : decode cX4_comes 37 = .ok (.bipush (-2), 2) := by decide +kernel
theorem dX4_comes_39 : decode cX4_comes 39 = .ok (.ireturn, 1) := by decide +kernel
theorem dX4_comes_40 : decode cX4_comes 40 = .ok (.aload_n 0, 1) := by decide +kernel
theorem dX4_comes_41 : decode cX4_comes 41 = .ok (.getfield 7, 3) := by decide +kernel
theorem dX4_comes_44 : decode cX4_comes 44 = .ok (.iconst 0, 1) := by decide +kernel
theorem dX4_comes_45 : decode cX4_comes 45 = .ok (.iaload, 1) := by decide +kernel
theorem dX4_comes_46 : decode cX4_comes 46 = .ok (.bipush 40, 2) := by decide +kernel
theorem dX4_comes_48 : decode cX4_comes 48 = .ok (.if_icmp .ne 6, 3) := by decide +kernel
theorem dX4_comes_51 : decode cX4_comes 51 = .ok (.ldc 59, 2) := by decide +kernel
theorem dX4_comes_53 : decode cX4_comes 53 = .ok (.ireturn, 1) := by decide +kernel
theorem dX4_comes_54 : decode cX4_comes 54 = .ok (.iconst 0, 1) := by decide +kernel
theorem dX4_comes_55 : decode cX4_comes 55 = .ok (.istore 5, 2) := by decide +kernel
theorem dX4_comes_57 : decode cX4_comes 57 = .ok (.iload 5, 2) := by decide +kernel
theorem dX4_comes_59 : decode cX4_comes 59 = .ok (.aload_n 0, 1) := by decide +kernel
theorem dX4_comes_60 : decode cX4_comes 60 = .ok (.getfield 7, 3) := by decide +kernel
theorem dX4_comes_63 : decode cX4_comes 63 = .ok (.iconst 0, 1) := by decide +kernel
theorem dX4_comes_64 : decode cX4_comes 64 = .ok (.iaload, 1) := by decide +kernel
theorem dX4_comes_65 : decode cX4_comes 65 = .ok (.if_icmp .ge 31, 3) := by decide +kernel
theorem dX4_comes_68 : decode cX4_comes 68 = .ok (.iload_n 1, 1) := by decide +kernel
theorem dX4_comes_69 : decode cX4_comes 69 = .ok (.aload_n 0, 1) := by decide +kernel
theorem dX4_comes_70 : decode cX4_comes 70 = .ok (.iload 5, 2) := by decide +kernel
theorem dX4_comes_72 : decode cX4_comes 72 = .ok (.iconst 0, 1) := by decide +kernel
theorem dX4_comes_73 : decode cX4_comes 73 = .ok (.invokevirtual 34, 3) := by decide +kernel
theorem dX4_comes_76 : decode cX4_comes 76 = .ok (.iconst (-1), 1) := by decide +kernel
theorem dX4_comes_77 : decode cX4_comes 77 = .ok (.ixor, 1) := by decide +kernel
theorem dX4_comes_78 : decode cX4_comes 78 = .ok (.iand, 1) := by decide +kernel
theorem dX4_comes_79 : decode cX4_comes 79 = .ok (.ifCond .ne 11, 3) := by decide +kernel
theorem dX4_comes_82 : decode cX4_comes 82 = .ok (.aload_n 0, 1) := by decide +kernel
theorem dX4_comes_83 : decode cX4_comes 83 = .ok (.iload 5, 2) := by decide +kernel
theorem dX4_comes_85 : decode cX4_comes 85 = .ok (.iconst 1, 1) := by decide +kernel
theorem dX4_comes_86 : decode cX4_comes 86 = .ok (.iconst 2, 1) := by decide +kernel
theorem dX4_comes_87 : decode cX4_comes 87 = .ok (.invokevirtual 60, 3) := by decide +kernel
theorem dX4_comes_90 : decode cX4_comes 90 = .ok (.iinc 5 1, 3) := by decide +kernel
theorem dX4_comes_93 : decode cX4_comes 93 = .ok (.goto (-36), 3) := by decide +kernel
theorem dX4_comes_96 : decode cX4_comes 96 = .ok (.aload_n 0, 1) := by decide +kernel
theorem dX4_comes_97 : decode cX4_comes 97 = .ok (.getfield 7, 3) := by decide +kernel
theorem dX4_comes_100 : decode cX4_comes 100 = .ok (.iconst 0, 1) := by decide +kernel
theorem dX4_comes_101 : decode cX4_comes 101 = .ok (.iaload, 1) := by decide +kernel
theorem dX4_comes_102 : decode cX4_comes 102 = .ok (.istore 5, 2) := by decide +kernel
theorem dX4_comes_104 : decode cX4_comes 104 = .ok (.aload_n 0, 1) := by decide +kernel
theorem dX4_comes_105 : decode cX4_comes 105 = .ok (.getfield 7, 3) := by decide +kernel
theorem dX4_comes_108 : decode cX4_comes 108 = .ok (.iconst 0, 1) := by decide +kernel
theorem dX4_comes_109 : decode cX4_comes 109 = .ok (.dup2, 1) := by decide +kernel
theorem dX4_comes_110 : decode cX4_comes 110 = .ok (.iaload, 1) := by decide +kernel
theorem dX4_comes_111 : decode cX4_comes 111 = .ok (.iconst 1, 1) := by decide +kernel
theorem dX4_comes_112 : decode cX4_comes 112 = .ok (.iadd, 1) := by decide +kernel
theorem dX4_comes_113 : decode cX4_comes 113 = .ok (.iastore, 1) := by decide +kernel
theorem dX4_comes_114 : decode cX4_comes 114 = .ok (.aload_n 0, 1) := by decide +kernel
theorem dX4_comes_115 : decode cX4_comes 115 = .ok (.iload 5, 2) := by decide +kernel
theorem dX4_comes_117 : decode cX4_comes 117 = .ok (.iconst 0, 1) := by decide +kernel
theorem dX4_comes_118 : decode cX4_comes 118 = .ok (.iload_n 1, 1) := by decide +kernel
theorem dX4_comes_119 : decode cX4_comes 119 = .ok (.invokevirtual 60, 3) := by decide +kernel
theorem dX4_comes_122 : decode cX4_comes 122 = .ok (.aload_n 0, 1) := by decide +kernel
theorem dX4_comes_123 : decode cX4_comes 123 = .ok (.iload 5, 2) := by decide +kernel
theorem dX4_comes_125 : decode cX4_comes 125 = .ok (.iconst 1, 1) := by decide +kernel
theorem dX4_comes_126 : decode cX4_comes 126 = .ok (.iconst 0, 1) := by decide +kernel
theorem dX4_comes_127 : decode cX4_comes 127 = .ok (.invokevirtual 60, 3) := by decide +kernel
theorem dX4_comes_130 : decode cX4_comes 130 = .ok (.aload_n 0, 1) := by decide +kernel
theorem dX4_comes_131 : decode cX4_comes 131 = .ok (.iload 5, 2) := by decide +kernel
theorem dX4_comes_133 : decode cX4_comes 133 = .ok (.iconst 2, 1) := by decide +kernel
theorem dX4_comes_134 : decode cX4_comes 134 = .ok (.iload_n 2, 1) := by decide +kernel
theorem dX4_comes_135 : decode cX4_comes 135 = .ok (.iconst 1, 1) := by decide +kernel
theorem dX4_comes_136 : decode cX4_comes 136 = .ok (.iadd, 1) := by decide +kernel
theorem dX4_comes_137 : decode cX4_comes 137 = .ok (.invokevirtual 60, 3) := by decide +kernel
theorem dX4_comes_140 : decode cX4_comes 140 = .ok (.aload_n 0, 1) := by decide +kernel
theorem dX4_comes_141 : decode cX4_comes 141 = .ok (.iload 5, 2) := by decide +kernel
theorem dX4_comes_143 : decode cX4_comes 143 = .ok (.iconst 3, 1) := by decide +kernel
theorem dX4_comes_144 : decode cX4_comes 144 = .ok (.iload_n 3, 1) := by decide +kernel
theorem dX4_comes_145 : decode cX4_comes 145 = .ok (.iconst 1, 1) := by decide +kernel
theorem dX4_comes_146 : decode cX4_comes 146 = .ok (.iadd, 1) := by decide +kernel
theorem dX4_comes_147 : decode cX4_comes 147 = .ok (.invokevirtual 60, 3) := by decide +kernel
theorem dX4_comes_150 : decode cX4_comes 150 = .ok (.aload_n 0, 1) := by decide +kernel
theorem dX4_comes_151 : decode cX4_comes 151 = .ok (.iload 5, 2) := by decide +kernel
theorem dX4_comes_153 : decode cX4_comes 153 = .ok (.iconst 4, 1) := by decide +kernel
theorem dX4_comes_154 : decode cX4_comes 154 = .ok (.iload 4, 2) := by decide +kernel
theorem dX4_comes_156 : decode cX4_comes 156 = .ok (.invokevirtual 60, 3) := by decide +kernel
theorem dX4_comes_159 : decode cX4_comes 159 = .ok (.aload_n 0, 1) := by decide +kernel
theorem dX4_comes_160 : decode cX4_comes 160 = .ok (.iload 5, 2) := by decide +kernel
theorem dX4_comes_162 : decode cX4_comes 162 = .ok (.iconst 5, 1) := by decide +kernel
theorem dX4_comes_163 : decode cX4_comes 163 = .ok (.iconst 0, 1) := by decide +kernel
theorem dX4_comes_164 : decode cX4_comes 164 = .ok (.invokevirtual 60, 3) := by decide +kernel
theorem dX4_comes_167 : decode cX4_comes 167 = .ok (.iload_n 2, 1) := by decide +kernel
theorem dX4_comes_168 : decode cX4_comes 168 = .ok (.ifCond .lt 42, 3) := by decide +kernel
theorem dX4_comes_171 : decode cX4_comes 171 = .ok (.aload_n 0, 1) := by decide +kernel
theorem dX4_comes_172 : decode cX4_comes 172 = .ok (.iload_n 2, 1) := by decide +kernel
theorem dX4_comes_173 : decode cX4_comes 173 = .ok (.iconst 5, 1) := by decide +kernel
theorem dX4_comes_174 : decode cX4_comes 174 = .ok (.invokevirtual 34, 3) := by decide +kernel
theorem dX4_comes_177 : decode cX4_comes 177 = .ok (.istore 6, 2) := by decide +kernel
theorem dX4_comes_179 : decode cX4_comes 179 = .ok (.aload_n 0, 1) := by decide +kernel
theorem dX4_comes_180 : decode cX4_comes 180 = .ok (.iload_n 3, 1) := by decide +kernel
theorem dX4_comes_181 : decode cX4_comes 181 = .ok (.iconst 5, 1) := by decide +kernel
theorem dX4_comes_182 : decode cX4_comes 182 = .ok (.invokevirtual 34, 3) := by decide +kernel
theorem dX4_comes_185 : decode cX4_comes 185 = .ok (.istore 7, 2) := by decide +kernel
theorem dX4_comes_187 : decode cX4_comes 187 = .ok (.aload_n 0, 1) := by decide +kernel
theorem dX4_comes_188 : decode cX4_comes 188 = .ok (.iload 5, 2) := by decide +kernel
theorem dX4_comes_190 : decode cX4_comes 190 = .ok (.iconst 5, 1) := by decide +kernel
theorem dX4_comes_191 : decode cX4_comes 191 = .ok (.iload 6, 2) := by decide +kernel
theorem dX4_comes_193 : decode cX4_comes 193 = .ok (.iload 7, 2) := by decide +kernel
theorem dX4_comes_195 : decode cX4_comes 195 = .ok (.if_icmp .le 8, 3) := by decide +kernel
theorem dX4_comes_198 : decode cX4_comes 198 = .ok (.iload 6, 2) := by decide +kernel
theorem dX4_comes_200 : decode cX4_comes 200 = .ok (.goto 5, 3) := by decide +kernel
theorem dX4_comes_203 : decode cX4_comes 203 = .ok (.iload 7, 2) := by decide +kernel
theorem dX4_comes_205 : decode cX4_comes 205 = .ok (.iconst 1, 1) := by decide +kernel
theorem dX4_comes_206 : decode cX4_comes 206 = .ok (.iadd, 1) := by decide +kernel
theorem dX4_comes_207 : decode cX4_comes 207 = .ok (.invokevirtual 60, 3) := by decide +kernel
theorem dX4_comes_210 : decode cX4_comes 210 = .ok (.iload 5, 2) := by decide +kernel
theorem dX4_comes_212 : decode cX4_comes 212 = .ok (.ireturn, 1) := by decide +kernel
set_option maxRecDepth 20000 in
theorem ggX4_empties_X4_of : GoodIn wsX4_empties wsX4_of := goodIn_r _ [6, 1, 7, 8, 9, 10, 11, 12, 13, 14] (by decide +kernel) (by decide +kernel)
set_option maxRecDepth 20000 in
theorem gX4_empties_X4_of : GoodIn wsX4_empties (wsV RX4 34 RX4 yX4_of wsX4_of) := goodIn_app (goodIn_of _ (by decide +kernel)) ggX4_empties_X4_of
theorem dX4_empties_0 : decode cX4_empties 0 = .ok (.iconst (-1), 1) := by decide +kernel
theorem dX4_empties_1 : decode cX4_empties 1 = .ok (.istore_n 1, 1) := by decide +kernel
theorem dX4_empties_2 : decode cX4_empties 2 = .ok (.iconst 0, 1) := by decide +kernel
theorem dX4_empties_3 : decode cX4_empties 3 = .ok (.istore_n 2, 1) := by decide +kernel
theorem dX4_empties_4 : decode cX4_empties 4 = .ok (.iload_n 2, 1) := by decide +kernel
theorem dX4_empties_5 : decode cX4_empties 5 = .ok (.aload_n 0, 1) := by decide +kernel
theorem dX4_empties_6 : decode cX4_empties 6 = .ok (.getfield 7, 3) := by decide +kernel
theorem dX4_empties_9 : decode cX4_empties 9 = .ok (.iconst 0, 1) := by decide +kernel
theorem dX4_empties_10 : decode cX4_empties 10 = .ok (.iaload, 1) := by decide +kernel
theorem dX4_empties_11 : decode cX4_empties 11 = .ok (.if_icmp .ge 24, 3) := by decide +kernel
theorem dX4_empties_14 : decode cX4_empties 14 = .ok (.aload_n 0, 1) := by decide +kernel
theorem dX4_empties_15 : decode cX4_empties 15 = .ok (.iload_n 2, 1) := by decide +kernel
theorem dX4_empties_16 : decode cX4_empties 16 = .ok (.iconst 0, 1) := by decide +kernel
theorem dX4_empties_17 : decode cX4_empties 17 = .ok (.invokevirtual 34, 3) := by decide +kernel
theorem dX4_empties_20 : decode cX4_empties 20 = .ok (.ifCond .ne 7, 3) := by decide +kernel
theorem dX4_empties_23 : decode cX4_empties 23 = .ok (.iload_n 2, 1) := by decide +kernel
theorem dX4_empties_24 : decode cX4_empties 24 = .ok (.goto 4, 3) := by decide +kernel
theorem dX4_empties_27 : decode cX4_empties 27 = .ok (.iload_n 1, 1) := by decide +kernel
theorem dX4_empties_28 : decode cX4_empties 28 = .ok (.istore_n 1, 1) := by decide +kernel
theorem dX4_empties_29 : decode cX4_empties 29 = .ok (.iinc 2 1, 3) := by decide +kernel
theorem dX4_empties_32 : decode cX4_empties 32 = .ok (.goto (-28), 3) := by decide +kernel
theorem dX4_empties_35 : decode cX4_empties 35 = .ok (.iload_n 1, 1) := by decide +kernel
theorem dX4_empties_36 : decode cX4_empties 36 = .ok (.ireturn, 1) := by decide +kernel
set_option maxRecDepth 20000 in
theorem ggX4_chosen_X4_of : GoodIn wsX4_chosen wsX4_of := goodIn_r _ [6, 1, 14, 15, 16, 17, 18, 19, 20, 21] (by decide +kernel) (by decide +kernel)
set_option maxRecDepth 20000 in
theorem gX4_chosen_X4_of : GoodIn wsX4_chosen (wsV RX4 34 RX4 yX4_of wsX4_of) := goodIn_app (goodIn_of _ (by decide +kernel)) ggX4_chosen_X4_of
set_option maxRecDepth 20000 in
theorem ggX4_chosen_X4_ones : GoodIn wsX4_chosen wsX4_ones := goodIn_r _ [9] (by decide +kernel) (by decide +kernel)
set_option maxRecDepth 20000 in
theorem gX4_chosen_X4_ones : GoodIn wsX4_chosen (va_wsS RX4 64 yX4_ones wsX4_ones) := goodIn_app (goodIn_of _ (by decide +kernel)) ggX4_chosen_X4_ones
set_option maxRecDepth 20000 in
theorem ggX4_chosen_X4_empties : GoodIn wsX4_chosen wsX4_empties := goodIn_r _ [13, 1, 2, 3, 4, 5, 6, 14, 15, 16, 17, 18, 19, 20, 21] (by decide +kernel) (by decide +kernel)
set_option maxRecDepth 20000 in
theorem gX4_chosen_X4_empties : GoodIn wsX4_chosen (wsV RX4 67 RX4 yX4_empties wsX4_empties) := goodIn_app (goodIn_of _ (by decide +kernel)) ggX4_chosen_X4_empties
theorem dX4_chosen_0 : decode cX4_chosen 0 = .ok (.aload_n 0, 1) := by decide +kernel
theorem dX4_chosen_1 : decode cX4_chosen 1 = .ok (.getfield 7, 3) := by decide +kernel
theorem dX4_chosen_4 : decode cX4_chosen 4 = .ok (.iconst 1, 1) := by decide +kernel
theorem dX4_chosen_5 : decode cX4_chosen 5 = .ok (.iaload, 1) := by decide +kernel
theorem dX4_chosen_6 : decode cX4_chosen 6 = .ok (.iconst 1, 1) := by decide +kernel
theorem dX4_chosen_7 : decode cX4_chosen 7 = .ok (.iadd, 1) := by decide +kernel
theorem dX4_chosen_8 : decode cX4_chosen 8 = .ok (.aload_n 0, 1) := by decide +kernel
theorem dX4_chosen_9 : decode cX4_chosen 9 = .ok (.getfield 7, 3) := by decide +kernel
theorem dX4_chosen_12 : decode cX4_chosen 12 = .ok (.iconst 2, 1) := by decide +kernel
theorem dX4_chosen_13 : decode cX4_chosen 13 = .ok (.iaload, 1) := by decide +kernel
theorem dX4_chosen_14 : decode cX4_chosen 14 = .ok (.irem, 1) := by decide +kernel
theorem dX4_chosen_15 : decode cX4_chosen 15 = .ok (.ifCond .ne 7, 3) := by decide +kernel
theorem dX4_chosen_18 : decode cX4_chosen 18 = .ok (.iconst 1, 1) := by decide +kernel
theorem dX4_chosen_19 : decode cX4_chosen 19 = .ok (.goto 4, 3) := by decide +kernel
theorem dX4_chosen_22 : decode cX4_chosen 22 = .ok (.iconst 0, 1) := by decide +kernel
theorem dX4_chosen_23 : decode cX4_chosen 23 = .ok (.istore_n 1, 1) := by decide +kernel
theorem dX4_chosen_24 : decode cX4_chosen 24 = .ok (.iconst (-1), 1) := by decide +kernel
theorem dX4_chosen_25 : decode cX4_chosen 25 = .ok (.istore_n 2, 1) := by decide +kernel
theorem dX4_chosen_26 : decode cX4_chosen 26 = .ok (.aload_n 0, 1) := by decide +kernel
theorem dX4_chosen_27 : decode cX4_chosen 27 = .ok (.getfield 7, 3) := by decide +kernel
theorem dX4_chosen_30 : decode cX4_chosen 30 = .ok (.iconst 0, 1) := by decide +kernel
theorem dX4_chosen_31 : decode cX4_chosen 31 = .ok (.iaload, 1) := by decide +kernel
theorem dX4_chosen_32 : decode cX4_chosen 32 = .ok (.iconst 1, 1) := by decide +kernel
theorem dX4_chosen_33 : decode cX4_chosen 33 = .ok (.isub, 1) := by decide +kernel
theorem dX4_chosen_34 : decode cX4_chosen 34 = .ok (.istore_n 3, 1) := by decide +kernel
theorem dX4_chosen_35 : decode cX4_chosen 35 = .ok (.iload_n 3, 1) := by decide +kernel
theorem dX4_chosen_36 : decode cX4_chosen 36 = .ok (.ifCond .lt 65, 3) := by decide +kernel
theorem dX4_chosen_39 : decode cX4_chosen 39 = .ok (.aload_n 0, 1) := by decide +kernel
theorem dX4_chosen_40 : decode cX4_chosen 40 = .ok (.iload_n 3, 1) := by decide +kernel
theorem dX4_chosen_41 : decode cX4_chosen 41 = .ok (.iconst 1, 1) := by decide +kernel
theorem dX4_chosen_42 : decode cX4_chosen 42 = .ok (.invokevirtual 34, 3) := by decide +kernel
theorem dX4_chosen_45 : decode cX4_chosen 45 = .ok (.ifCond .ne 36, 3) := by decide +kernel
theorem dX4_chosen_48 : decode cX4_chosen 48 = .ok (.iload_n 2, 1) := by decide +kernel
theorem dX4_chosen_49 : decode cX4_chosen 49 = .ok (.ifCond .lt 28, 3) := by decide +kernel
theorem dX4_chosen_52 : decode cX4_chosen 52 = .ok (.iload_n 1, 1) := by decide +kernel
theorem dX4_chosen_53 : decode cX4_chosen 53 = .ok (.ifCond .ne 24, 3) := by decide +kernel
theorem dX4_chosen_56 : decode cX4_chosen 56 = .ok (.aload_n 0, 1) := by decide +kernel
theorem dX4_chosen_57 : decode cX4_chosen 57 = .ok (.iload_n 3, 1) := by decide +kernel
theorem dX4_chosen_58 : decode cX4_chosen 58 = .ok (.iconst 0, 1) := by decide +kernel
theorem dX4_chosen_59 : decode cX4_chosen 59 = .ok (.invokevirtual 34, 3) := by decide +kernel
theorem dX4_chosen_62 : decode cX4_chosen 62 = .ok (.invokestatic 64, 3) := by decide +kernel
theorem dX4_chosen_65 : decode cX4_chosen 65 = .ok (.aload_n 0, 1) := by decide +kernel
theorem dX4_chosen_66 : decode cX4_chosen 66 = .ok (.iload_n 2, 1) := by decide +kernel
theorem dX4_chosen_67 : decode cX4_chosen 67 = .ok (.iconst 0, 1) := by decide +kernel
theorem dX4_chosen_68 : decode cX4_chosen 68 = .ok (.invokevirtual 34, 3) := by decide +kernel
theorem dX4_chosen_71 : decode cX4_chosen 71 = .ok (.invokestatic 64, 3) := by decide +kernel
theorem dX4_chosen_74 : decode cX4_chosen 74 = .ok (.if_icmp .gt 7, 3) := by decide +kernel
theorem dX4_chosen_77 : decode cX4_chosen 77 = .ok (.iconst 1, 1) := by decide +kernel
theorem dX4_chosen_78 : decode cX4_chosen 78 = .ok (.goto 4, 3) := by decide +kernel
theorem dX4_chosen_81 : decode cX4_chosen 81 = .ok (.iconst 0, 1) := by decide +kernel
theorem dX4_chosen_82 : decode cX4_chosen 82 = .ok (.istore 4, 2) := by decide +kernel
theorem dX4_chosen_84 : decode cX4_chosen 84 = .ok (.iload 4, 2) := by decide +kernel
theorem dX4_chosen_86 : decode cX4_chosen 86 = .ok (.ifCond .eq 7, 3) := by decide +kernel
theorem dX4_chosen_89 : decode cX4_chosen 89 = .ok (.iload_n 3, 1) := by decide +kernel
theorem dX4_chosen_90 : decode cX4_chosen 90 = .ok (.goto 4, 3) := by decide +kernel
theorem dX4_chosen_93 : decode cX4_chosen 93 = .ok (.iload_n 2, 1) := by decide +kernel
theorem dX4_chosen_94 : decode cX4_chosen 94 = .ok (.istore_n 2, 1) := by decide +kernel
theorem dX4_chosen_95 : decode cX4_chosen 95 = .ok (.iinc 3 (-1), 3) := by decide +kernel
theorem dX4_chosen_98 : decode cX4_chosen 98 = .ok (.goto (-63), 3) := by decide +kernel
theorem dX4_chosen_101 : decode cX4_chosen 101 = .ok (.aload_n 0, 1) := by decide +kernel
theorem dX4_chosen_102 : decode cX4_chosen 102 = .ok (.invokevirtual 67, 3) := by decide +kernel
theorem dX4_chosen_105 : decode cX4_chosen 105 = .ok (.ifCond .ge 7, 3) := by decide +kernel
theorem dX4_chosen_108 : decode cX4_chosen 108 = .ok (.iload_n 2, 1) := by decide +kernel
theorem dX4_chosen_109 : decode cX4_chosen 109 = .ok (.goto 4, 3) := by decide +kernel
theorem dX4_chosen_112 : decode cX4_chosen 112 = .ok (.iconst (-1), 1) := by decide +kernel
theorem dX4_chosen_113 : decode cX4_chosen 113 = .ok (.ireturn, 1) := by decide +kernel
set_option maxRecDepth 20000 in
theorem ggX4_resolves_X4_of : GoodIn wsX4_resolves wsX4_of := goodIn_r _ [5, 6, 38, 39, 40, 41, 42, 43, 44, 45] (by decide +kernel) (by decide +kernel)
set_option maxRecDepth 20000 in
theorem gX4_resolves_X4_of : GoodIn wsX4_resolves (wsV RX4 34 RX4 yX4_of wsX4_of) := goodIn_app (goodIn_of _ (by decide +kernel)) ggX4_resolves_X4_of
set_option maxRecDepth 20000 in
theorem ggX4_resolves_X4_greatest : GoodIn wsX4_resolves wsX4_greatest := goodIn_r _ [10, 11, 12, 4, 13, 14, 15, 16, 17, 6, 38, 39, 40, 41, 42, 43, 44, 45] (by decide +kernel) (by decide +kernel)
set_option maxRecDepth 20000 in
theorem gX4_resolves_X4_greatest : GoodIn wsX4_resolves (wsV RX4 46 RX4 yX4_greatest wsX4_greatest) := goodIn_app (goodIn_of _ (by decide +kernel)) ggX4_resolves_X4_greatest
set_option maxRecDepth 20000 in
theorem ggX4_resolves_X4_comes : GoodIn wsX4_resolves wsX4_comes := goodIn_r _ [21, 6, 22, 23, 24, 4, 25, 26, 27, 28, 29, 30, 31, 32, 33, 1, 2, 3, 5, 34, 35, 36, 37, 38, 39, 40, 41, 42, 43, 44, 45] (by decide +kernel) (by decide +kernel)
set_option maxRecDepth 20000 in
theorem gX4_resolves_X4_comes : GoodIn wsX4_resolves (wsV RX4 71 RX4 yX4_comes wsX4_comes) := goodIn_app (goodIn_of _ (by decide +kernel)) ggX4_resolves_X4_comes
theorem dX4_resolves_0 : decode cX4_resolves 0 = .ok (.aload_n 0, 1) := by decide +kernel
theorem dX4_resolves_1 : decode cX4_resolves 1 = .ok (.aload_n 0, 1) := by decide +kernel
theorem dX4_resolves_2 : decode cX4_resolves 2 = .ok (.iload_n 1, 1) := by decide +kernel
theorem dX4_resolves_3 : decode cX4_resolves 3 = .ok (.iconst 0, 1) := by decide +kernel
theorem dX4_resolves_4 : decode cX4_resolves 4 = .ok (.invokevirtual 34, 3) := by decide +kernel
theorem dX4_resolves_7 : decode cX4_resolves 7 = .ok (.invokevirtual 46, 3) := by decide +kernel
theorem dX4_resolves_10 : decode cX4_resolves 10 = .ok (.istore_n 3, 1) := by decide +kernel
theorem dX4_resolves_11 : decode cX4_resolves 11 = .ok (.iload_n 3, 1) := by decide +kernel
theorem dX4_resolves_12 : decode cX4_resolves 12 = .ok (.iconst 2, 1) := by decide +kernel
theorem dX4_resolves_13 : decode cX4_resolves 13 = .ok (.irem, 1) := by decide +kernel
theorem dX4_resolves_14 : decode cX4_resolves 14 = .ok (.ifCond .ne 7, 3) := by decide +kernel
theorem dX4_resolves_17 : decode cX4_resolves 17 = .ok (.iconst 1, 1) := by decide +kernel
theorem dX4_resolves_18 : decode cX4_resolves 18 = .ok (.goto 4, 3) := by decide +kernel
theorem dX4_resolves_21 : decode cX4_resolves 21 = .ok (.iconst 0, 1) := by decide +kernel
theorem dX4_resolves_22 : decode cX4_resolves 22 = .ok (.istore 4, 2) := by decide +kernel
theorem dX4_resolves_24 : decode cX4_resolves 24 = .ok (.aload_n 0, 1) := by decide +kernel
theorem dX4_resolves_25 : decode cX4_resolves 25 = .ok (.iload_n 1, 1) := by decide +kernel
theorem dX4_resolves_26 : decode cX4_resolves 26 = .ok (.iconst 0, 1) := by decide +kernel
theorem dX4_resolves_27 : decode cX4_resolves 27 = .ok (.invokevirtual 34, 3) := by decide +kernel
theorem dX4_resolves_30 : decode cX4_resolves 30 = .ok (.aload_n 0, 1) := by decide +kernel
theorem dX4_resolves_31 : decode cX4_resolves 31 = .ok (.iload_n 2, 1) := by decide +kernel
theorem dX4_resolves_32 : decode cX4_resolves 32 = .ok (.iconst 0, 1) := by decide +kernel
theorem dX4_resolves_33 : decode cX4_resolves 33 = .ok (.invokevirtual 34, 3) := by decide +kernel
theorem dX4_resolves_36 : decode cX4_resolves 36 = .ok (.ior, 1) := by decide +kernel
theorem dX4_resolves_37 : decode cX4_resolves 37 = .ok (.iconst 3, 1) := by decide +kernel
theorem dX4_resolves_38 : decode cX4_resolves 38 = .ok (.iload_n 3, 1) := by decide +kernel
theorem dX4_resolves_39 : decode cX4_resolves 39 = .ok (.iconst 2, 1) := by decide +kernel
theorem dX4_resolves_40 : decode cX4_resolves 40 = .ok (.idiv, 1) := by decide +kernel
theorem dX4_resolves_41 : decode cX4_resolves 41 = .ok (.iconst 2, 1) := by decide +kernel
theorem dX4_resolves_42 : decode cX4_resolves 42 = .ok (.imul, 1) := by decide +kernel
theorem dX4_resolves_43 : decode cX4_resolves 43 = .ok (.ishl, 1) := by decide +kernel
theorem dX4_resolves_44 : decode cX4_resolves 44 = .ok (.iconst (-1), 1) := by decide +kernel
theorem dX4_resolves_45 : decode cX4_resolves 45 = .ok (.ixor, 1) := by decide +kernel
theorem dX4_resolves_46 : decode cX4_resolves 46 = .ok (.iand, 1) := by decide +kernel
theorem dX4_resolves_47 : decode cX4_resolves 47 = .ok (.istore 5, 2) := by decide +kernel
theorem dX4_resolves_49 : decode cX4_resolves 49 = .ok (.aload_n 0, 1) := by decide +kernel
theorem dX4_resolves_50 : decode cX4_resolves 50 = .ok (.iload 5, 2) := by decide +kernel
theorem dX4_resolves_52 : decode cX4_resolves 52 = .ok (.iload 4, 2) := by decide +kernel
theorem dX4_resolves_54 : decode cX4_resolves 54 = .ok (.ifCond .eq 7, 3) := by decide +kernel
theorem dX4_resolves_57 : decode cX4_resolves 57 = .ok (.iload_n 1, 1) := by decide +kernel
theorem dX4_resolves_58 : decode cX4_resolves 58 = .ok (.goto 4, 3) := by decide +kernel
theorem dX4_resolves_61 : decode cX4_resolves 61 = .ok (.iload_n 2, 1) := by decide +kernel
theorem dX4_resolves_62 : decode cX4_resolves 62 = .ok (.iload 4, 2) := by decide +kernel
theorem dX4_resolves_64 : decode cX4_resolves 64 = .ok (.ifCond .eq 7, 3) := by decide +kernel
theorem dX4_resolves_67 : decode cX4_resolves 67 = .ok (.iload_n 2, 1) := by decide +kernel
theorem dX4_resolves_68 : decode cX4_resolves 68 = .ok (.goto 4, 3) := by decide +kernel
theorem dX4_resolves_71 : decode cX4_resolves 71 = .ok (.iload_n 1, 1) := by decide +kernel
theorem dX4_resolves_72 : decode cX4_resolves 72 = .ok (.iload_n 3, 1) := by decide +kernel
theorem dX4_resolves_73 : decode cX4_resolves 73 = .ok (.iconst 2, 1) := by decide +kernel
theorem dX4_resolves_74 : decode cX4_resolves 74 = .ok (.idiv, 1) := by decide +kernel
theorem dX4_resolves_75 : decode cX4_resolves 75 = .ok (.invokevirtual 71, 3) := by decide +kernel
theorem dX4_resolves_78 : decode cX4_resolves 78 = .ok (.ireturn, 1) := by decide +kernel
set_option maxRecDepth 20000 in
theorem ggX4_arePartners_X4_of : GoodIn wsX4_arePartners wsX4_of := goodIn_r _ [5, 6, 18, 19, 20, 21, 22, 23, 24, 25] (by decide +kernel) (by decide +kernel)
set_option maxRecDepth 20000 in
theorem gX4_arePartners_X4_of : GoodIn wsX4_arePartners (wsV RX4 34 RX4 yX4_of wsX4_of) := goodIn_app (goodIn_of _ (by decide +kernel)) ggX4_arePartners_X4_of
set_option maxRecDepth 20000 in
theorem ggX4_arePartners_X4_greatest : GoodIn wsX4_arePartners wsX4_greatest := goodIn_r _ [10, 11, 12, 4, 13, 14, 15, 16, 17, 6, 18, 19, 20, 21, 22, 23, 24, 25] (by decide +kernel) (by decide +kernel)
set_option maxRecDepth 20000 in
theorem gX4_arePartners_X4_greatest : GoodIn wsX4_arePartners (wsV RX4 46 RX4 yX4_greatest wsX4_greatest) := goodIn_app (goodIn_of _ (by decide +kernel)) ggX4_arePartners_X4_greatest
theorem dX4_arePartners_0 : decode cX4_arePartners 0 = .ok (.aload_n 0, 1) := by decide +kernel
theorem dX4_arePartners_1 : decode cX4_arePartners 1 = .ok (.aload_n 0, 1) := by decide +kernel
theorem dX4_arePartners_2 : decode cX4_arePartners 2 = .ok (.iload_n 1, 1) := by decide +kernel
theorem dX4_arePartners_3 : decode cX4_arePartners 3 = .ok (.iconst 0, 1) := by decide +kernel
theorem dX4_arePartners_4 : decode cX4_arePartners 4 = .ok (.invokevirtual 34, 3) := by decide +kernel
theorem dX4_arePartners_7 : decode cX4_arePartners 7 = .ok (.invokevirtual 46, 3) := by decide +kernel
theorem dX4_arePartners_10 : decode cX4_arePartners 10 = .ok (.istore_n 3, 1) := by decide +kernel
theorem dX4_arePartners_11 : decode cX4_arePartners 11 = .ok (.iload_n 2, 1) := by decide +kernel
theorem dX4_arePartners_12 : decode cX4_arePartners 12 = .ok (.iload_n 1, 1) := by decide +kernel
theorem dX4_arePartners_13 : decode cX4_arePartners 13 = .ok (.if_icmp .eq 33, 3) := by decide +kernel
theorem dX4_arePartners_16 : decode cX4_arePartners 16 = .ok (.aload_n 0, 1) := by decide +kernel
theorem dX4_arePartners_17 : decode cX4_arePartners 17 = .ok (.iload_n 2, 1) := by decide +kernel
theorem dX4_arePartners_18 : decode cX4_arePartners 18 = .ok (.iconst 1, 1) := by decide +kernel
theorem dX4_arePartners_19 : decode cX4_arePartners 19 = .ok (.invokevirtual 34, 3) := by decide +kernel
theorem dX4_arePartners_22 : decode cX4_arePartners 22 = .ok (.iconst 1, 1) := by decide +kernel
theorem dX4_arePartners_23 : decode cX4_arePartners 23 = .ok (.if_icmp .ne 23, 3) := by decide +kernel
theorem dX4_arePartners_26 : decode cX4_arePartners 26 = .ok (.aload_n 0, 1) := by decide +kernel
theorem dX4_arePartners_27 : decode cX4_arePartners 27 = .ok (.aload_n 0, 1) := by decide +kernel
theorem dX4_arePartners_28 : decode cX4_arePartners 28 = .ok (.iload_n 2, 1) := by decide +kernel
theorem dX4_arePartners_29 : decode cX4_arePartners 29 = .ok (.iconst 0, 1) := by decide +kernel
theorem dX4_arePartners_30 : decode cX4_arePartners 30 = .ok (.invokevirtual 34, 3) := by decide +kernel
theorem dX4_arePartners_33 : decode cX4_arePartners 33 = .ok (.invokevirtual 46, 3) := by decide +kernel
theorem dX4_arePartners_36 : decode cX4_arePartners 36 = .ok (.iload_n 3, 1) := by decide +kernel
theorem dX4_arePartners_37 : decode cX4_arePartners 37 = .ok (.iconst 1, 1) := by decide +kernel
theorem dX4_arePartners_38 : decode cX4_arePartners 38 = .ok (.ixor, 1) := by decide +kernel
theorem dX4_arePartners_39 : decode cX4_arePartners 39 = .ok (.if_icmp .ne 7, 3) := by decide +kernel
theorem dX4_arePartners_42 : decode cX4_arePartners 42 = .ok (.iconst 1, 1) := by decide +kernel
theorem dX4_arePartners_43 : decode cX4_arePartners 43 = .ok (.goto 4, 3) := by decide +kernel
theorem dX4_arePartners_46 : decode cX4_arePartners 46 = .ok (.iconst 0, 1) := by decide +kernel
theorem dX4_arePartners_47 : decode cX4_arePartners 47 = .ok (.ireturn, 1) := by decide +kernel
set_option maxRecDepth 20000 in
theorem ggX4_steps_X4_chosen : GoodIn wsX4_steps wsX4_chosen := goodIn_r _ [8, 2, 9, 10, 11, 7, 12, 13, 14, 15, 16, 17, 18, 19, 58, 59, 60, 61, 62, 63, 64, 65] (by decide +kernel) (by decide +kernel)
set_option maxRecDepth 20000 in
theorem gX4_steps_X4_chosen : GoodIn wsX4_steps (wsV RX4 75 RX4 yX4_chosen wsX4_chosen) := goodIn_app (goodIn_of _ (by decide +kernel)) ggX4_steps_X4_chosen
set_option maxRecDepth 20000 in
theorem ggX4_steps_X4_puts : GoodIn wsX4_steps wsX4_puts := goodIn_r _ [23, 2, 58, 59, 60, 61, 62, 63, 64, 65] (by decide +kernel) (by decide +kernel)
set_option maxRecDepth 20000 in
theorem gX4_steps_X4_puts : GoodIn wsX4_steps (wsV RX4 60 RX4 yX4_puts wsX4_puts) := goodIn_app (goodIn_of _ (by decide +kernel)) ggX4_steps_X4_puts
set_option maxRecDepth 20000 in
theorem ggX4_steps_X4_isKept : GoodIn wsX4_steps wsX4_isKept := goodIn_r _ [27, 9, 10, 11, 7, 12, 2, 58, 59, 60, 61, 62, 63, 64, 65] (by decide +kernel) (by decide +kernel)
set_option maxRecDepth 20000 in
theorem gX4_steps_X4_isKept : GoodIn wsX4_steps (wsV RX4 49 RX4 yX4_isKept wsX4_isKept) := goodIn_app (goodIn_of _ (by decide +kernel)) ggX4_steps_X4_isKept
set_option maxRecDepth 20000 in
theorem ggX4_steps_X4_arePartners : GoodIn wsX4_steps wsX4_arePartners := goodIn_r _ [31, 9, 10, 11, 7, 12, 2, 32, 33, 34, 35, 36, 37, 38, 39, 40, 41, 42, 58, 59, 60, 61, 62, 63, 64, 65] (by decide +kernel) (by decide +kernel)
set_option maxRecDepth 20000 in
theorem gX4_steps_X4_arePartners : GoodIn wsX4_steps (wsV RX4 79 RX4 yX4_arePartners wsX4_arePartners) := goodIn_app (goodIn_of _ (by decide +kernel)) ggX4_steps_X4_arePartners
set_option maxRecDepth 20000 in
theorem ggX4_steps_X4_resolves : GoodIn wsX4_steps wsX4_resolves := goodIn_r _ [46, 9, 10, 11, 7, 12, 2, 32, 33, 34, 35, 36, 37, 38, 39, 40, 41, 42, 47, 48, 49, 50, 3, 51, 52, 53, 54, 55, 56, 57, 24, 25, 26, 27, 20, 21, 22, 23, 58, 59, 60, 61, 62, 63, 64, 65] (by decide +kernel) (by decide +kernel)
set_option maxRecDepth 20000 in
theorem gX4_steps_X4_resolves : GoodIn wsX4_steps (wsV RX4 82 RX4 yX4_resolves wsX4_resolves) := goodIn_app (goodIn_of _ (by decide +kernel)) ggX4_steps_X4_resolves
set_option maxRecDepth 20000 in
theorem ggX4_steps_X4_of : GoodIn wsX4_steps wsX4_of := goodIn_r _ [12, 2, 58, 59, 60, 61, 62, 63, 64, 65] (by decide +kernel) (by decide +kernel)
set_option maxRecDepth 20000 in
theorem gX4_steps_X4_of : GoodIn wsX4_steps (wsV RX4 34 RX4 yX4_of wsX4_of) := goodIn_app (goodIn_of _ (by decide +kernel)) ggX4_steps_X4_of
theorem dX4_steps_0 : decode cX4_steps 0 = .ok (.aload_n 0, 1) := by decide +kernel
theorem dX4_steps_1 : decode cX4_steps 1 = .ok (.invokevirtual 75, 3) := by decide +kernel
theorem dX4_steps_4 : decode cX4_steps 4 = .ok (.istore_n 1, 1) := by decide +kernel
theorem dX4_steps_5 : decode cX4_steps 5 = .ok (.iload_n 1, 1) := by decide +kernel
theorem dX4_steps_6 : decode cX4_steps 6 = .ok (.ifCond .ge 6, 3) := by decide +kernel
theorem dX4_steps_9 : decode cX4_steps 9 = .ok (.ldc 78, 2) := by decide +kernel
theorem dX4_steps_11 : decode cX4_steps 11 = .ok (.ireturn, 1) := by decide +kernel
theorem dX4_steps_12 : decode cX4_steps 12 = .ok (.aload_n 0, 1) := by decide +kernel
theorem dX4_steps_13 : decode cX4_steps 13 = .ok (.iload_n 1, 1) := by decide +kernel
theorem dX4_steps_14 : decode cX4_steps 14 = .ok (.iconst 1, 1) := by decide +kernel
theorem dX4_steps_15 : decode cX4_steps 15 = .ok (.iconst 1, 1) := by decide +kernel
theorem dX4_steps_16 : decode cX4_steps 16 = .ok (.invokevirtual 60, 3) := by decide +kernel
theorem dX4_steps_19 : decode cX4_steps 19 = .ok (.aload_n 0, 1) := by decide +kernel
theorem dX4_steps_20 : decode cX4_steps 20 = .ok (.getfield 7, 3) := by decide +kernel
theorem dX4_steps_23 : decode cX4_steps 23 = .ok (.iconst 1, 1) := by decide +kernel
theorem dX4_steps_24 : decode cX4_steps 24 = .ok (.dup2, 1) := by decide +kernel
theorem dX4_steps_25 : decode cX4_steps 25 = .ok (.iaload, 1) := by decide +kernel
theorem dX4_steps_26 : decode cX4_steps 26 = .ok (.iconst 1, 1) := by decide +kernel
theorem dX4_steps_27 : decode cX4_steps 27 = .ok (.iadd, 1) := by decide +kernel
theorem dX4_steps_28 : decode cX4_steps 28 = .ok (.iastore, 1) := by decide +kernel
theorem dX4_steps_29 : decode cX4_steps 29 = .ok (.aload_n 0, 1) := by decide +kernel
theorem dX4_steps_30 : decode cX4_steps 30 = .ok (.getfield 7, 3) := by decide +kernel
theorem dX4_steps_33 : decode cX4_steps 33 = .ok (.iconst 0, 1) := by decide +kernel
theorem dX4_steps_34 : decode cX4_steps 34 = .ok (.iaload, 1) := by decide +kernel
theorem dX4_steps_35 : decode cX4_steps 35 = .ok (.istore_n 2, 1) := by decide +kernel
theorem dX4_steps_36 : decode cX4_steps 36 = .ok (.iconst 0, 1) := by decide +kernel
theorem dX4_steps_37 : decode cX4_steps 37 = .ok (.istore_n 3, 1) := by decide +kernel
theorem dX4_steps_38 : decode cX4_steps 38 = .ok (.iload_n 3, 1) := by decide +kernel
theorem dX4_steps_39 : decode cX4_steps 39 = .ok (.iload_n 2, 1) := by decide +kernel
theorem dX4_steps_40 : decode cX4_steps 40 = .ok (.if_icmp .ge 65, 3) := by decide +kernel
theorem dX4_steps_43 : decode cX4_steps 43 = .ok (.aload_n 0, 1) := by decide +kernel
theorem dX4_steps_44 : decode cX4_steps 44 = .ok (.iload_n 1, 1) := by decide +kernel
theorem dX4_steps_45 : decode cX4_steps 45 = .ok (.invokevirtual 49, 3) := by decide +kernel
theorem dX4_steps_48 : decode cX4_steps 48 = .ok (.ifCond .eq 57, 3) := by decide +kernel
theorem dX4_steps_51 : decode cX4_steps 51 = .ok (.aload_n 0, 1) := by decide +kernel
theorem dX4_steps_52 : decode cX4_steps 52 = .ok (.iload_n 1, 1) := by decide +kernel
theorem dX4_steps_53 : decode cX4_steps 53 = .ok (.iload_n 3, 1) := by decide +kernel
theorem dX4_steps_54 : decode cX4_steps 54 = .ok (.invokevirtual 79, 3) := by decide +kernel
theorem dX4_steps_57 : decode cX4_steps 57 = .ok (.ifCond .eq 12, 3) := by decide +kernel
theorem dX4_steps_60 : decode cX4_steps 60 = .ok (.aload_n 0, 1) := by decide +kernel
theorem dX4_steps_61 : decode cX4_steps 61 = .ok (.iload_n 1, 1) := by decide +kernel
theorem dX4_steps_62 : decode cX4_steps 62 = .ok (.iload_n 3, 1) := by decide +kernel
theorem dX4_steps_63 : decode cX4_steps 63 = .ok (.invokevirtual 82, 3) := by decide +kernel
theorem dX4_steps_66 : decode cX4_steps 66 = .ok (.goto 4, 3) := by decide +kernel
theorem dX4_steps_69 : decode cX4_steps 69 = .ok (.iconst (-1), 1) := by decide +kernel
theorem dX4_steps_70 : decode cX4_steps 70 = .ok (.istore 4, 2) := by decide +kernel
theorem dX4_steps_72 : decode cX4_steps 72 = .ok (.iload 4, 2) := by decide +kernel
theorem dX4_steps_74 : decode cX4_steps 74 = .ok (.ldc 59, 2) := by decide +kernel
theorem dX4_steps_76 : decode cX4_steps 76 = .ok (.if_icmp .ne 6, 3) := by decide +kernel
theorem dX4_steps_79 : decode cX4_steps 79 = .ok (.iload 4, 2) := by decide +kernel
theorem dX4_steps_81 : decode cX4_steps 81 = .ok (.ireturn, 1) := by decide +kernel
theorem dX4_steps_82 : decode cX4_steps 82 = .ok (.iload 4, 2) := by decide +kernel
theorem dX4_steps_84 : decode cX4_steps 84 = .ok (.ifCond .lt 15, 3) := by decide +kernel
theorem dX4_steps_87 : decode cX4_steps 87 = .ok (.aload_n 0, 1) := by decide +kernel
theorem dX4_steps_88 : decode cX4_steps 88 = .ok (.iload 4, 2) := by decide +kernel
theorem dX4_steps_90 : decode cX4_steps 90 = .ok (.iconst 0, 1) := by decide +kernel
theorem dX4_steps_91 : decode cX4_steps 91 = .ok (.invokevirtual 34, 3) := by decide +kernel
theorem dX4_steps_94 : decode cX4_steps 94 = .ok (.ifCond .ne 5, 3) := by decide +kernel
theorem dX4_steps_97 : decode cX4_steps 97 = .ok (.iload_n 1, 1) := by decide +kernel
theorem dX4_steps_98 : decode cX4_steps 98 = .ok (.ireturn, 1) := by decide +kernel
theorem dX4_steps_99 : decode cX4_steps 99 = .ok (.iinc 3 1, 3) := by decide +kernel
theorem dX4_steps_102 : decode cX4_steps 102 = .ok (.goto (-64), 3) := by decide +kernel
theorem dX4_steps_105 : decode cX4_steps 105 = .ok (.iload_n 1, 1) := by decide +kernel
theorem dX4_steps_106 : decode cX4_steps 106 = .ok (.ireturn, 1) := by decide +kernel
set_option maxRecDepth 20000 in
theorem ggX4_runs_X4_steps : GoodIn wsX4_runs wsX4_steps := goodIn_r _ [7, 2, 8, 1, 9, 10, 11, 6, 12, 13, 14, 15, 16, 17, 18, 19, 20, 21, 22, 23, 24, 25, 26, 27, 28, 29, 30, 31, 32, 33, 34, 35, 36, 37, 38, 39, 40, 41, 42, 43, 44, 45, 46, 47, 48, 49, 50, 51, 52, 53, 54, 55, 56, 57, 58, 59, 60, 61, 62, 63, 64, 65, 66, 67, 68, 69] (by decide +kernel) (by decide +kernel)
set_option maxRecDepth 20000 in
theorem gX4_runs_X4_steps : GoodIn wsX4_runs (wsV RX4 85 RX4 yX4_steps wsX4_steps) := goodIn_app (goodIn_of _ (by decide +kernel)) ggX4_runs_X4_steps
theorem dX4_runs_0 : decode cX4_runs 0 = .ok (.iconst 0, 1) := by decide +kernel
theorem dX4_runs_1 : decode cX4_runs 1 = .ok (.istore_n 2, 1) := by decide +kernel
theorem dX4_runs_2 : decode cX4_runs 2 = .ok (.iload_n 2, 1) := by decide +kernel
theorem dX4_runs_3 : decode cX4_runs 3 = .ok (.iload_n 1, 1) := by decide +kernel
theorem dX4_runs_4 : decode cX4_runs 4 = .ok (.if_icmp .ge 30, 3) := by decide +kernel
theorem dX4_runs_7 : decode cX4_runs 7 = .ok (.aload_n 0, 1) := by decide +kernel
theorem dX4_runs_8 : decode cX4_runs 8 = .ok (.invokevirtual 85, 3) := by decide +kernel
theorem dX4_runs_11 : decode cX4_runs 11 = .ok (.istore_n 3, 1) := by decide +kernel
theorem dX4_runs_12 : decode cX4_runs 12 = .ok (.iload_n 3, 1) := by decide +kernel
theorem dX4_runs_13 : decode cX4_runs 13 = .ok (.ldc 59, 2) := by decide +kernel
theorem dX4_runs_15 : decode cX4_runs 15 = .ok (.if_icmp .ne 5, 3) := by decide +kernel
theorem dX4_runs_18 : decode cX4_runs 18 = .ok (.iload_n 3, 1) := by decide +kernel
theorem dX4_runs_19 : decode cX4_runs 19 = .ok (.ireturn, 1) := by decide +kernel
theorem dX4_runs_20 : decode cX4_runs 20 = .ok (.iload_n 3, 1) := by decide +kernel
theorem dX4_runs_21 : decode cX4_runs 21 = .ok (.ldc 78, 2) := by decide +kernel
theorem dX4_runs_23 : decode cX4_runs 23 = .ok (.if_icmp .ne 5, 3) := by decide +kernel
theorem dX4_runs_26 : decode cX4_runs 26 = .ok (.iload_n 2, 1) := by decide +kernel
theorem dX4_runs_27 : decode cX4_runs 27 = .ok (.ireturn, 1) := by decide +kernel
theorem dX4_runs_28 : decode cX4_runs 28 = .ok (.iinc 2 1, 3) := by decide +kernel
theorem dX4_runs_31 : decode cX4_runs 31 = .ok (.goto (-29), 3) := by decide +kernel
theorem dX4_runs_34 : decode cX4_runs 34 = .ok (.iload_n 1, 1) := by decide +kernel
theorem dX4_runs_35 : decode cX4_runs 35 = .ok (.ireturn, 1) := by decide +kernel
set_option maxRecDepth 20000 in
theorem ggX4_ranks_X4_of : GoodIn wsX4_ranks wsX4_of := goodIn_r _ [6, 1, 11, 12, 13, 14, 15, 16, 17, 18] (by decide +kernel) (by decide +kernel)
set_option maxRecDepth 20000 in
theorem gX4_ranks_X4_of : GoodIn wsX4_ranks (wsV RX4 34 RX4 yX4_of wsX4_of) := goodIn_app (goodIn_of _ (by decide +kernel)) ggX4_ranks_X4_of
set_option maxRecDepth 20000 in
theorem ggX4_ranks_X4_puts : GoodIn wsX4_ranks wsX4_puts := goodIn_r _ [10, 1, 11, 12, 13, 14, 15, 16, 17, 18] (by decide +kernel) (by decide +kernel)
set_option maxRecDepth 20000 in
theorem gX4_ranks_X4_puts : GoodIn wsX4_ranks (wsV RX4 60 RX4 yX4_puts wsX4_puts) := goodIn_app (goodIn_of _ (by decide +kernel)) ggX4_ranks_X4_puts
theorem dX4_ranks_0 : decode cX4_ranks 0 = .ok (.aload_n 0, 1) := by decide +kernel
theorem dX4_ranks_1 : decode cX4_ranks 1 = .ok (.getfield 7, 3) := by decide +kernel
theorem dX4_ranks_4 : decode cX4_ranks 4 = .ok (.iconst 5, 1) := by decide +kernel
theorem dX4_ranks_5 : decode cX4_ranks 5 = .ok (.iload_n 1, 1) := by decide +kernel
theorem dX4_ranks_6 : decode cX4_ranks 6 = .ok (.iadd, 1) := by decide +kernel
theorem dX4_ranks_7 : decode cX4_ranks 7 = .ok (.iaload, 1) := by decide +kernel
theorem dX4_ranks_8 : decode cX4_ranks 8 = .ok (.istore_n 3, 1) := by decide +kernel
theorem dX4_ranks_9 : decode cX4_ranks 9 = .ok (.iconst 0, 1) := by decide +kernel
theorem dX4_ranks_10 : decode cX4_ranks 10 = .ok (.istore 4, 2) := by decide +kernel
theorem dX4_ranks_12 : decode cX4_ranks 12 = .ok (.iload 4, 2) := by decide +kernel
theorem dX4_ranks_14 : decode cX4_ranks 14 = .ok (.bipush 6, 2) := by decide +kernel
theorem dX4_ranks_16 : decode cX4_ranks 16 = .ok (.if_icmp .ge 44, 3) := by decide +kernel
theorem dX4_ranks_19 : decode cX4_ranks 19 = .ok (.aload_n 0, 1) := by decide +kernel
theorem dX4_ranks_20 : decode cX4_ranks 20 = .ok (.getfield 7, 3) := by decide +kernel
theorem dX4_ranks_23 : decode cX4_ranks 23 = .ok (.iconst 5, 1) := by decide +kernel
theorem dX4_ranks_24 : decode cX4_ranks 24 = .ok (.iload 4, 2) := by decide +kernel
theorem dX4_ranks_26 : decode cX4_ranks 26 = .ok (.iadd, 1) := by decide +kernel
theorem dX4_ranks_27 : decode cX4_ranks 27 = .ok (.aload_n 0, 1) := by decide +kernel
theorem dX4_ranks_28 : decode cX4_ranks 28 = .ok (.getfield 7, 3) := by decide +kernel
theorem dX4_ranks_31 : decode cX4_ranks 31 = .ok (.iconst 5, 1) := by decide +kernel
theorem dX4_ranks_32 : decode cX4_ranks 32 = .ok (.iload 4, 2) := by decide +kernel
theorem dX4_ranks_34 : decode cX4_ranks 34 = .ok (.iadd, 1) := by decide +kernel
theorem dX4_ranks_35 : decode cX4_ranks 35 = .ok (.iaload, 1) := by decide +kernel
theorem dX4_ranks_36 : decode cX4_ranks 36 = .ok (.iload_n 2, 1) := by decide +kernel
theorem dX4_ranks_37 : decode cX4_ranks 37 = .ok (.if_icmp .ne 7, 3) := by decide +kernel
theorem dX4_ranks_40 : decode cX4_ranks 40 = .ok (.iload_n 3, 1) := by decide +kernel
theorem dX4_ranks_41 : decode cX4_ranks 41 = .ok (.goto 12, 3) := by decide +kernel
theorem dX4_ranks_44 : decode cX4_ranks 44 = .ok (.aload_n 0, 1) := by decide +kernel
theorem dX4_ranks_45 : decode cX4_ranks 45 = .ok (.getfield 7, 3) := by decide +kernel
theorem dX4_ranks_48 : decode cX4_ranks 48 = .ok (.iconst 5, 1) := by decide +kernel
theorem dX4_ranks_49 : decode cX4_ranks 49 = .ok (.iload 4, 2) := by decide +kernel
theorem dX4_ranks_51 : decode cX4_ranks 51 = .ok (.iadd, 1) := by decide +kernel
theorem dX4_ranks_52 : decode cX4_ranks 52 = .ok (.iaload, 1) := by decide +kernel
theorem dX4_ranks_53 : decode cX4_ranks 53 = .ok (.iastore, 1) := by decide +kernel
theorem dX4_ranks_54 : decode cX4_ranks 54 = .ok (.iinc 4 1, 3) := by decide +kernel
theorem dX4_ranks_57 : decode cX4_ranks 57 = .ok (.goto (-45), 3) := by decide +kernel

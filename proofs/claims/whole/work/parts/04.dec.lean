theorem dX2_stepAt_10 : decode cX2_stepAt 10 = .ok (.aload_n 0, 1) := by decide +kernel
theorem dX2_stepAt_11 : decode cX2_stepAt 11 = .ok (.getfield 21, 3) := by decide +kernel
theorem dX2_stepAt_14 : decode cX2_stepAt 14 = .ok (.iload_n 1, 1) := by decide +kernel
theorem dX2_stepAt_15 : decode cX2_stepAt 15 = .ok (.iaload, 1) := by decide +kernel
theorem dX2_stepAt_16 : decode cX2_stepAt 16 = .ok (.goto 4, 3) := by decide +kernel
theorem dX2_stepAt_19 : decode cX2_stepAt 19 = .ok (.iconst (-1), 1) := by decide +kernel
theorem dX2_stepAt_20 : decode cX2_stepAt 20 = .ok (.ireturn, 1) := by decide +kernel
theorem dX3_init_0 : decode cX3_init 0 = .ok (.aload_n 0, 1) := by decide +kernel
theorem dX3_init_1 : decode cX3_init 1 = .ok (.invokespecial 1, 3) := by decide +kernel
theorem dX3_init_4 : decode cX3_init 4 = .ok (.aload_n 0, 1) := by decide +kernel
theorem dX3_init_5 : decode cX3_init 5 = .ok (.new 7, 3) := by decide +kernel
theorem dX3_init_8 : decode cX3_init 8 = .ok (.dup, 1) := by decide +kernel
theorem dX3_init_9 : decode cX3_init 9 = .ok (.invokespecial 9, 3) := by decide +kernel
theorem dX3_init_12 : decode cX3_init 12 = .ok (.putfield 10, 3) := by decide +kernel
theorem dX3_init_15 : decode cX3_init 15 = .ok (.aload_n 0, 1) := by decide +kernel
theorem dX3_init_16 : decode cX3_init 16 = .ok (.new 16, 3) := by decide +kernel
theorem dX3_init_19 : decode cX3_init 19 = .ok (.dup, 1) := by decide +kernel
theorem dX3_init_20 : decode cX3_init 20 = .ok (.invokespecial 18, 3) := by decide +kernel
theorem dX3_init_23 : decode cX3_init 23 = .ok (.putfield 19, 3) := by decide +kernel
theorem dX3_init_26 : decode cX3_init 26 = .ok (.aload_n 0, 1) := by decide +kernel
theorem dX3_init_27 : decode cX3_init 27 = .ok (.new 23, 3) := by decide +kernel
theorem dX3_init_30 : decode cX3_init 30 = .ok (.dup, 1) := by decide +kernel
theorem dX3_init_31 : decode cX3_init 31 = .ok (.invokespecial 25, 3) := by decide +kernel
theorem dX3_init_34 : decode cX3_init 34 = .ok (.putfield 26, 3) := by decide +kernel
theorem dX3_init_37 : decode cX3_init 37 = .ok (.aload_n 0, 1) := by decide +kernel
theorem dX3_init_38 : decode cX3_init 38 = .ok (.getfield 19, 3) := by decide +kernel
theorem dX3_init_41 : decode cX3_init 41 = .ok (.bipush 49, 2) := by decide +kernel
theorem dX3_init_43 : decode cX3_init 43 = .ok (.invokevirtual 30, 3) := by decide +kernel
theorem dX3_init_46 : decode cX3_init 46 = .ok (.pop, 1) := by decide +kernel
theorem dX3_init_47 : decode cX3_init 47 = .ok (.aload_n 0, 1) := by decide +kernel
theorem dX3_init_48 : decode cX3_init 48 = .ok (.getfield 19, 3) := by decide +kernel
theorem dX3_init_51 : decode cX3_init 51 = .ok (.bipush 49, 2) := by decide +kernel
theorem dX3_init_53 : decode cX3_init 53 = .ok (.invokevirtual 34, 3) := by decide +kernel
theorem dX3_init_56 : decode cX3_init 56 = .ok (.aload_n 0, 1) := by decide +kernel
theorem dX3_init_57 : decode cX3_init 57 = .ok (.getfield 26, 3) := by decide +kernel
theorem dX3_init_60 : decode cX3_init 60 = .ok (.aload_n 0, 1) := by decide +kernel
theorem dX3_init_61 : decode cX3_init 61 = .ok (.getfield 19, 3) := by decide +kernel
theorem dX3_init_64 : decode cX3_init 64 = .ok (.iconst 0, 1) := by decide +kernel
theorem dX3_init_65 : decode cX3_init 65 = .ok (.invokevirtual 38, 3) := by decide +kernel
theorem dX3_init_68 : decode cX3_init 68 = .ok (.return_, 1) := by decide +kernel
theorem dX4_init_0 : decode cX4_init 0 = .ok (.aload_n 0, 1) := by decide +kernel
theorem dX4_init_1 : decode cX4_init 1 = .ok (.invokespecial 3, 3) := by decide +kernel
theorem dX4_init_4 : decode cX4_init 4 = .ok (.aload_n 0, 1) := by decide +kernel
theorem dX4_init_5 : decode cX4_init 5 = .ok (.bipush 6, 2) := by decide +kernel
theorem dX4_init_7 : decode cX4_init 7 = .ok (.newarray .int, 2) := by decide +kernel
theorem dX4_init_9 : decode cX4_init 9 = .ok (.putfield 9, 3) := by decide +kernel
theorem dX4_init_12 : decode cX4_init 12 = .ok (.return_, 1) := by decide +kernel
theorem dX4_clear_0 : decode cX4_clear 0 = .ok (.aload_n 0, 1) := by decide +kernel
theorem dX4_clear_1 : decode cX4_clear 1 = .ok (.iconst 0, 1) := by decide +kernel
theorem dX4_clear_2 : decode cX4_clear 2 = .ok (.putfield 15, 3) := by decide +kernel
theorem dX4_clear_5 : decode cX4_clear 5 = .ok (.aload_n 0, 1) := by decide +kernel
theorem dX4_clear_6 : decode cX4_clear 6 = .ok (.iconst 0, 1) := by decide +kernel
theorem dX4_clear_7 : decode cX4_clear 7 = .ok (.putfield 19, 3) := by decide +kernel
theorem dX4_clear_10 : decode cX4_clear 10 = .ok (.aload_n 0, 1) := by decide +kernel
theorem dX4_clear_11 : decode cX4_clear 11 = .ok (.iconst 0, 1) := by decide +kernel
theorem dX4_clear_12 : decode cX4_clear 12 = .ok (.putfield 22, 3) := by decide +kernel
theorem dX4_clear_15 : decode cX4_clear 15 = .ok (.return_, 1) := by decide +kernel
theorem dX4_add_0 : decode cX4_add 0 = .ok (.aload_n 0, 1) := by decide +kernel
theorem dX4_add_1 : decode cX4_add 1 = .ok (.getfield 15, 3) := by decide +kernel
theorem dX4_add_4 : decode cX4_add 4 = .ok (.bipush 6, 2) := by decide +kernel
theorem dX4_add_6 : decode cX4_add 6 = .ok (.invokestatic 25, 3) := by decide +kernel
theorem dX4_add_9 : decode cX4_add 9 = .ok (.ifCond .eq 45, 3) := by decide +kernel
theorem dX4_add_12 : decode cX4_add 12 = .ok (.aload_n 0, 1) := by decide +kernel
theorem dX4_add_13 : decode cX4_add 13 = .ok (.getfield 9, 3) := by decide +kernel
theorem dX4_add_16 : decode cX4_add 16 = .ok (.aload_n 0, 1) := by decide +kernel
theorem dX4_add_17 : decode cX4_add 17 = .ok (.getfield 15, 3) := by decide +kernel
theorem dX4_add_20 : decode cX4_add 20 = .ok (.iload_n 1, 1) := by decide +kernel
theorem dX4_add_21 : decode cX4_add 21 = .ok (.iastore, 1) := by decide +kernel
theorem dX4_add_22 : decode cX4_add 22 = .ok (.aload_n 0, 1) := by decide +kernel
theorem dX4_add_23 : decode cX4_add 23 = .ok (.dup, 1) := by decide +kernel
theorem dX4_add_24 : decode cX4_add 24 = .ok (.getfield 15, 3) := by decide +kernel
theorem dX4_add_27 : decode cX4_add 27 = .ok (.iconst 1, 1) := by decide +kernel
theorem dX4_add_28 : decode cX4_add 28 = .ok (.iadd, 1) := by decide +kernel
theorem dX4_add_29 : decode cX4_add 29 = .ok (.putfield 15, 3) := by decide +kernel
theorem dX4_add_32 : decode cX4_add 32 = .ok (.aload_n 0, 1) := by decide +kernel
theorem dX4_add_33 : decode cX4_add 33 = .ok (.dup, 1) := by decide +kernel
theorem dX4_add_34 : decode cX4_add 34 = .ok (.getfield 19, 3) := by decide +kernel
theorem dX4_add_37 : decode cX4_add 37 = .ok (.iload_n 2, 1) := by decide +kernel
theorem dX4_add_38 : decode cX4_add 38 = .ok (.iadd, 1) := by decide +kernel
theorem dX4_add_39 : decode cX4_add 39 = .ok (.putfield 19, 3) := by decide +kernel
theorem dX4_add_42 : decode cX4_add 42 = .ok (.aload_n 0, 1) := by decide +kernel
theorem dX4_add_43 : decode cX4_add 43 = .ok (.aload_n 0, 1) := by decide +kernel
theorem dX4_add_44 : decode cX4_add 44 = .ok (.getfield 22, 3) := by decide +kernel
theorem dX4_add_47 : decode cX4_add 47 = .ok (.iload_n 2, 1) := by decide +kernel
theorem dX4_add_48 : decode cX4_add 48 = .ok (.ishl, 1) := by decide +kernel
theorem dX4_add_49 : decode cX4_add 49 = .ok (.iload_n 1, 1) := by decide +kernel
theorem dX4_add_50 : decode cX4_add 50 = .ok (.ior, 1) := by decide +kernel
theorem dX4_add_51 : decode cX4_add 51 = .ok (.putfield 22, 3) := by decide +kernel
theorem dX4_add_54 : decode cX4_add 54 = .ok (.return_, 1) := by decide +kernel
theorem dX4_takeBack_0 : decode cX4_takeBack 0 = .ok (.aload_n 0, 1) := by decide +kernel
theorem dX4_takeBack_1 : decode cX4_takeBack 1 = .ok (.getfield 15, 3) := by decide +kernel
theorem dX4_takeBack_4 : decode cX4_takeBack 4 = .ok (.iconst 1, 1) := by decide +kernel
theorem dX4_takeBack_5 : decode cX4_takeBack 5 = .ok (.isub, 1) := by decide +kernel
theorem dX4_takeBack_6 : decode cX4_takeBack 6 = .ok (.bipush 6, 2) := by decide +kernel
theorem dX4_takeBack_8 : decode cX4_takeBack 8 = .ok (.invokestatic 25, 3) := by decide +kernel
theorem dX4_takeBack_11 : decode cX4_takeBack 11 = .ok (.ifCond .ne 5, 3) := by decide +kernel
theorem dX4_takeBack_14 : decode cX4_takeBack 14 = .ok (.iconst (-1), 1) := by decide +kernel
theorem dX4_takeBack_15 : decode cX4_takeBack 15 = .ok (.ireturn, 1) := by decide +kernel
theorem dX4_takeBack_16 : decode cX4_takeBack 16 = .ok (.aload_n 0, 1) := by decide +kernel
theorem dX4_takeBack_17 : decode cX4_takeBack 17 = .ok (.dup, 1) := by decide +kernel
theorem dX4_takeBack_18 : decode cX4_takeBack 18 = .ok (.getfield 15, 3) := by decide +kernel
theorem dX4_takeBack_21 : decode cX4_takeBack 21 = .ok (.iconst 1, 1) := by decide +kernel
theorem dX4_takeBack_22 : decode cX4_takeBack 22 = .ok (.isub, 1) := by decide +kernel
theorem dX4_takeBack_23 : decode cX4_takeBack 23 = .ok (.putfield 15, 3) := by decide +kernel
theorem dX4_takeBack_26 : decode cX4_takeBack 26 = .ok (.aload_n 0, 1) := by decide +kernel
theorem dX4_takeBack_27 : decode cX4_takeBack 27 = .ok (.dup, 1) := by decide +kernel
theorem dX4_takeBack_28 : decode cX4_takeBack 28 = .ok (.getfield 19, 3) := by decide +kernel
theorem dX4_takeBack_31 : decode cX4_takeBack 31 = .ok (.iload_n 1, 1) := by decide +kernel
theorem dX4_takeBack_32 : decode cX4_takeBack 32 = .ok (.isub, 1) := by decide +kernel
theorem dX4_takeBack_33 : decode cX4_takeBack 33 = .ok (.putfield 19, 3) := by decide +kernel
theorem dX4_takeBack_36 : decode cX4_takeBack 36 = .ok (.aload_n 0, 1) := by decide +kernel
theorem dX4_takeBack_37 : decode cX4_takeBack 37 = .ok (.dup, 1) := by decide +kernel
theorem dX4_takeBack_38 : decode cX4_takeBack 38 = .ok (.getfield 22, 3) := by decide +kernel
theorem dX4_takeBack_41 : decode cX4_takeBack 41 = .ok (.iload_n 1, 1) := by decide +kernel
theorem dX4_takeBack_42 : decode cX4_takeBack 42 = .ok (.ishr, 1) := by decide +kernel
theorem dX4_takeBack_43 : decode cX4_takeBack 43 = .ok (.putfield 22, 3) := by decide +kernel
theorem dX4_takeBack_46 : decode cX4_takeBack 46 = .ok (.aload_n 0, 1) := by decide +kernel
theorem dX4_takeBack_47 : decode cX4_takeBack 47 = .ok (.getfield 9, 3) := by decide +kernel
theorem dX4_takeBack_50 : decode cX4_takeBack 50 = .ok (.aload_n 0, 1) := by decide +kernel
theorem dX4_takeBack_51 : decode cX4_takeBack 51 = .ok (.getfield 15, 3) := by decide +kernel
theorem dX4_takeBack_54 : decode cX4_takeBack 54 = .ok (.iaload, 1) := by decide +kernel
theorem dX4_takeBack_55 : decode cX4_takeBack 55 = .ok (.ireturn, 1) := by decide +kernel
theorem dX4_valueOf_0 : decode cX4_valueOf 0 = .ok (.iload_n 1, 1) := by decide +kernel
theorem dX4_valueOf_1 : decode cX4_valueOf 1 = .ok (.aload_n 0, 1) := by decide +kernel
theorem dX4_valueOf_2 : decode cX4_valueOf 2 = .ok (.getfield 19, 3) := by decide +kernel
theorem dX4_valueOf_5 : decode cX4_valueOf 5 = .ok (.invokestatic 25, 3) := by decide +kernel
theorem dX4_valueOf_8 : decode cX4_valueOf 8 = .ok (.ifCond .eq 21, 3) := by decide +kernel
theorem dX4_valueOf_11 : decode cX4_valueOf 11 = .ok (.aload_n 0, 1) := by decide +kernel
theorem dX4_valueOf_12 : decode cX4_valueOf 12 = .ok (.getfield 22, 3) := by decide +kernel
theorem dX4_valueOf_15 : decode cX4_valueOf 15 = .ok (.aload_n 0, 1) := by decide +kernel
theorem dX4_valueOf_16 : decode cX4_valueOf 16 = .ok (.getfield 19, 3) := by decide +kernel
theorem dX4_valueOf_19 : decode cX4_valueOf 19 = .ok (.iconst 1, 1) := by decide +kernel
theorem dX4_valueOf_20 : decode cX4_valueOf 20 = .ok (.isub, 1) := by decide +kernel
theorem dX4_valueOf_21 : decode cX4_valueOf 21 = .ok (.iload_n 1, 1) := by decide +kernel
theorem dX4_valueOf_22 : decode cX4_valueOf 22 = .ok (.isub, 1) := by decide +kernel
theorem dX4_valueOf_23 : decode cX4_valueOf 23 = .ok (.ishr, 1) := by decide +kernel
theorem dX4_valueOf_24 : decode cX4_valueOf 24 = .ok (.iconst 1, 1) := by decide +kernel
theorem dX4_valueOf_25 : decode cX4_valueOf 25 = .ok (.iand, 1) := by decide +kernel
theorem dX4_valueOf_26 : decode cX4_valueOf 26 = .ok (.goto 4, 3) := by decide +kernel
theorem dX4_valueOf_29 : decode cX4_valueOf 29 = .ok (.iconst (-1), 1) := by decide +kernel
theorem dX4_valueOf_30 : decode cX4_valueOf 30 = .ok (.ireturn, 1) := by decide +kernel
theorem dX4_valuesWith_0 : decode cX4_valuesWith 0 = .ok (.aload_n 0, 1) := by decide +kernel
theorem dX4_valuesWith_1 : decode cX4_valuesWith 1 = .ok (.getfield 19, 3) := by decide +kernel
theorem dX4_valuesWith_4 : decode cX4_valuesWith 4 = .ok (.iconst 1, 1) := by decide +kernel
theorem dX4_valuesWith_5 : decode cX4_valuesWith 5 = .ok (.isub, 1) := by decide +kernel
theorem dX4_valuesWith_6 : decode cX4_valuesWith 6 = .ok (.iload_n 1, 1) := by decide +kernel
theorem dX4_valuesWith_7 : decode cX4_valuesWith 7 = .ok (.isub, 1) := by decide +kernel
theorem dX4_valuesWith_8 : decode cX4_valuesWith 8 = .ok (.istore_n 3, 1) := by decide +kernel
theorem dX4_valuesWith_9 : decode cX4_valuesWith 9 = .ok (.aload_n 0, 1) := by decide +kernel
theorem dX4_valuesWith_10 : decode cX4_valuesWith 10 = .ok (.getfield 22, 3) := by decide +kernel
theorem dX4_valuesWith_13 : decode cX4_valuesWith 13 = .ok (.iconst 1, 1) := by decide +kernel
theorem dX4_valuesWith_14 : decode cX4_valuesWith 14 = .ok (.iload_n 3, 1) := by decide +kernel
theorem dX4_valuesWith_15 : decode cX4_valuesWith 15 = .ok (.ishl, 1) := by decide +kernel
theorem dX4_valuesWith_16 : decode cX4_valuesWith 16 = .ok (.iconst (-1), 1) := by decide +kernel
theorem dX4_valuesWith_17 : decode cX4_valuesWith 17 = .ok (.ixor, 1) := by decide +kernel
theorem dX4_valuesWith_18 : decode cX4_valuesWith 18 = .ok (.iand, 1) := by decide +kernel
theorem dX4_valuesWith_19 : decode cX4_valuesWith 19 = .ok (.iload_n 2, 1) := by decide +kernel
theorem dX4_valuesWith_20 : decode cX4_valuesWith 20 = .ok (.iload_n 3, 1) := by decide +kernel
theorem dX4_valuesWith_21 : decode cX4_valuesWith 21 = .ok (.ishl, 1) := by decide +kernel
theorem dX4_valuesWith_22 : decode cX4_valuesWith 22 = .ok (.ior, 1) := by decide +kernel
theorem dX4_valuesWith_23 : decode cX4_valuesWith 23 = .ok (.ireturn, 1) := by decide +kernel
theorem dX5_init_0 : decode cX5_init 0 = .ok (.aload_n 0, 1) := by decide +kernel
theorem dX5_init_1 : decode cX5_init 1 = .ok (.invokespecial 3, 3) := by decide +kernel
theorem dX5_init_4 : decode cX5_init 4 = .ok (.aload_n 0, 1) := by decide +kernel
theorem dX5_init_5 : decode cX5_init 5 = .ok (.sipush 320, 3) := by decide +kernel
theorem dX5_init_8 : decode cX5_init 8 = .ok (.newarray .int, 2) := by decide +kernel
theorem dX5_init_10 : decode cX5_init 10 = .ok (.putfield 11, 3) := by decide +kernel
theorem dX5_init_13 : decode cX5_init 13 = .ok (.return_, 1) := by decide +kernel
theorem dX5_addTimes_0 : decode cX5_addTimes 0 = .ok (.iconst 0, 1) := by decide +kernel
theorem dX5_addTimes_1 : decode cX5_addTimes 1 = .ok (.istore_n 3, 1) := by decide +kernel
theorem dX5_addTimes_2 : decode cX5_addTimes 2 = .ok (.iload_n 3, 1) := by decide +kernel
theorem dX5_addTimes_3 : decode cX5_addTimes 3 = .ok (.iload_n 2, 1) := by decide +kernel
theorem dX5_addTimes_4 : decode cX5_addTimes 4 = .ok (.if_icmp .ge 14, 3) := by decide +kernel
theorem dX5_addTimes_7 : decode cX5_addTimes 7 = .ok (.aload_n 0, 1) := by decide +kernel
theorem dX5_addTimes_8 : decode cX5_addTimes 8 = .ok (.iload_n 1, 1) := by decide +kernel
theorem dX5_addTimes_9 : decode cX5_addTimes 9 = .ok (.invokevirtual 15, 3) := by decide +kernel
theorem dX5_addTimes_12 : decode cX5_addTimes 12 = .ok (.iinc 3 1, 3) := by decide +kernel
theorem dX5_addTimes_15 : decode cX5_addTimes 15 = .ok (.goto (-13), 3) := by decide +kernel
theorem dX5_addTimes_18 : decode cX5_addTimes 18 = .ok (.return_, 1) := by decide +kernel
theorem dX5_addSymbol_0 : decode cX5_addSymbol 0 = .ok (.iload_n 1, 1) := by decide +kernel
theorem dX5_addSymbol_1 : decode cX5_addSymbol 1 = .ok (.sipush 256, 3) := by decide +kernel
theorem dX5_addSymbol_4 : decode cX5_addSymbol 4 = .ok (.if_icmp .ge 9, 3) := by decide +kernel
theorem dX5_addSymbol_7 : decode cX5_addSymbol 7 = .ok (.aload_n 0, 1) := by decide +kernel
theorem dX5_addSymbol_8 : decode cX5_addSymbol 8 = .ok (.iload_n 1, 1) := by decide +kernel
theorem dX5_addSymbol_9 : decode cX5_addSymbol 9 = .ok (.invokevirtual 15, 3) := by decide +kernel
theorem dX5_addSymbol_12 : decode cX5_addSymbol 12 = .ok (.return_, 1) := by decide +kernel
theorem dX5_addSymbol_13 : decode cX5_addSymbol 13 = .ok (.aload_n 2, 1) := by decide +kernel
theorem dX5_addSymbol_14 : decode cX5_addSymbol 14 = .ok (.iload_n 1, 1) := by decide +kernel
theorem dX5_addSymbol_15 : decode cX5_addSymbol 15 = .ok (.sipush 256, 3) := by decide +kernel
theorem dX5_addSymbol_18 : decode cX5_addSymbol 18 = .ok (.isub, 1) := by decide +kernel
theorem dX5_addSymbol_19 : decode cX5_addSymbol 19 = .ok (.invokevirtual 19, 3) := by decide +kernel
theorem dX5_addSymbol_22 : decode cX5_addSymbol 22 = .ok (.istore_n 3, 1) := by decide +kernel
theorem dX5_addSymbol_23 : decode cX5_addSymbol 23 = .ok (.aload_n 0, 1) := by decide +kernel
theorem dX5_addSymbol_24 : decode cX5_addSymbol 24 = .ok (.iload_n 3, 1) := by decide +kernel
theorem dX5_addSymbol_25 : decode cX5_addSymbol 25 = .ok (.sipush 255, 3) := by decide +kernel
theorem dX5_addSymbol_28 : decode cX5_addSymbol 28 = .ok (.iand, 1) := by decide +kernel
theorem dX5_addSymbol_29 : decode cX5_addSymbol 29 = .ok (.invokevirtual 15, 3) := by decide +kernel
theorem dX5_addSymbol_32 : decode cX5_addSymbol 32 = .ok (.iload_n 3, 1) := by decide +kernel
theorem dX5_addSymbol_33 : decode cX5_addSymbol 33 = .ok (.sipush 255, 3) := by decide +kernel
theorem dX5_addSymbol_36 : decode cX5_addSymbol 36 = .ok (.if_icmp .le 16, 3) := by decide +kernel
theorem dX5_addSymbol_39 : decode cX5_addSymbol 39 = .ok (.aload_n 0, 1) := by decide +kernel
theorem dX5_addSymbol_40 : decode cX5_addSymbol 40 = .ok (.bipush 48, 2) := by decide +kernel
theorem dX5_addSymbol_42 : decode cX5_addSymbol 42 = .ok (.iload_n 3, 1) := by decide +kernel
theorem dX5_addSymbol_43 : decode cX5_addSymbol 43 = .ok (.bipush 8, 2) := by decide +kernel
theorem dX5_addSymbol_45 : decode cX5_addSymbol 45 = .ok (.ishr, 1) := by decide +kernel
theorem dX5_addSymbol_46 : decode cX5_addSymbol 46 = .ok (.iadd, 1) := by decide +kernel
theorem dX5_addSymbol_47 : decode cX5_addSymbol 47 = .ok (.iconst 1, 1) := by decide +kernel
theorem dX5_addSymbol_48 : decode cX5_addSymbol 48 = .ok (.isub, 1) := by decide +kernel
theorem dX5_addSymbol_49 : decode cX5_addSymbol 49 = .ok (.invokevirtual 15, 3) := by decide +kernel
theorem dX5_addSymbol_52 : decode cX5_addSymbol 52 = .ok (.return_, 1) := by decide +kernel
theorem dX5_byteAt_0 : decode cX5_byteAt 0 = .ok (.iload_n 1, 1) := by decide +kernel
theorem dX5_byteAt_1 : decode cX5_byteAt 1 = .ok (.aload_n 0, 1) := by decide +kernel
theorem dX5_byteAt_2 : decode cX5_byteAt 2 = .ok (.getfield 25, 3) := by decide +kernel
theorem dX5_byteAt_5 : decode cX5_byteAt 5 = .ok (.invokestatic 29, 3) := by decide +kernel
theorem dX5_byteAt_8 : decode cX5_byteAt 8 = .ok (.ifCond .eq 19, 3) := by decide +kernel
theorem dX5_byteAt_11 : decode cX5_byteAt 11 = .ok (.iload_n 1, 1) := by decide +kernel
theorem dX5_byteAt_12 : decode cX5_byteAt 12 = .ok (.sipush 320, 3) := by decide +kernel
theorem dX5_byteAt_15 : decode cX5_byteAt 15 = .ok (.if_icmp .ge 12, 3) := by decide +kernel
theorem dX5_byteAt_18 : decode cX5_byteAt 18 = .ok (.aload_n 0, 1) := by decide +kernel
theorem dX5_byteAt_19 : decode cX5_byteAt 19 = .ok (.getfield 11, 3) := by decide +kernel
theorem dX5_byteAt_22 : decode cX5_byteAt 22 = .ok (.iload_n 1, 1) := by decide +kernel
theorem dX5_byteAt_23 : decode cX5_byteAt 23 = .ok (.iaload, 1) := by decide +kernel
theorem dX5_byteAt_24 : decode cX5_byteAt 24 = .ok (.goto 4, 3) := by decide +kernel
theorem dX5_byteAt_27 : decode cX5_byteAt 27 = .ok (.iconst (-1), 1) := by decide +kernel
theorem dX5_byteAt_28 : decode cX5_byteAt 28 = .ok (.ireturn, 1) := by decide +kernel
theorem dX5_add_0 : decode cX5_add 0 = .ok (.aload_n 0, 1) := by decide +kernel
theorem dX5_add_1 : decode cX5_add 1 = .ok (.getfield 25, 3) := by decide +kernel
theorem dX5_add_4 : decode cX5_add 4 = .ok (.sipush 320, 3) := by decide +kernel
theorem dX5_add_7 : decode cX5_add 7 = .ok (.invokestatic 29, 3) := by decide +kernel
theorem dX5_add_10 : decode cX5_add 10 = .ok (.ifCond .eq 23, 3) := by decide +kernel
theorem dX5_add_13 : decode cX5_add 13 = .ok (.aload_n 0, 1) := by decide +kernel
theorem dX5_add_14 : decode cX5_add 14 = .ok (.getfield 11, 3) := by decide +kernel
theorem dX5_add_17 : decode cX5_add 17 = .ok (.aload_n 0, 1) := by decide +kernel
theorem dX5_add_18 : decode cX5_add 18 = .ok (.getfield 25, 3) := by decide +kernel
theorem dX5_add_21 : decode cX5_add 21 = .ok (.iload_n 1, 1) := by decide +kernel
theorem dX5_add_22 : decode cX5_add 22 = .ok (.iastore, 1) := by decide +kernel
theorem dX5_add_23 : decode cX5_add 23 = .ok (.aload_n 0, 1) := by decide +kernel
theorem dX5_add_24 : decode cX5_add 24 = .ok (.dup, 1) := by decide +kernel
theorem dX5_add_25 : decode cX5_add 25 = .ok (.getfield 25, 3) := by decide +kernel
theorem dX5_add_28 : decode cX5_add 28 = .ok (.iconst 1, 1) := by decide +kernel
theorem dX5_add_29 : decode cX5_add 29 = .ok (.iadd, 1) := by decide +kernel
theorem dX5_add_30 : decode cX5_add 30 = .ok (.putfield 25, 3) := by decide +kernel
theorem dX5_add_33 : decode cX5_add 33 = .ok (.return_, 1) := by decide +kernel
theorem dX6_init_0 : decode cX6_init 0 = .ok (.aload_n 0, 1) := by decide +kernel
theorem dX6_init_1 : decode cX6_init 1 = .ok (.invokespecial 3, 3) := by decide +kernel
theorem dX6_init_4 : decode cX6_init 4 = .ok (.aload_n 0, 1) := by decide +kernel
theorem dX6_init_5 : decode cX6_init 5 = .ok (.new 9, 3) := by decide +kernel
theorem dX6_init_8 : decode cX6_init 8 = .ok (.dup, 1) := by decide +kernel
theorem dX6_init_9 : decode cX6_init 9 = .ok (.aload_n 1, 1) := by decide +kernel
theorem dX6_init_10 : decode cX6_init 10 = .ok (.invokespecial 11, 3) := by decide +kernel
theorem dX6_init_13 : decode cX6_init 13 = .ok (.putfield 14, 3) := by decide +kernel
theorem dX6_init_16 : decode cX6_init 16 = .ok (.aload_n 0, 1) := by decide +kernel
theorem dX6_init_17 : decode cX6_init 17 = .ok (.new 20, 3) := by decide +kernel
theorem dX6_init_20 : decode cX6_init 20 = .ok (.dup, 1) := by decide +kernel
theorem dX6_init_21 : decode cX6_init 21 = .ok (.invokespecial 22, 3) := by decide +kernel
theorem dX6_init_24 : decode cX6_init 24 = .ok (.putfield 23, 3) := by decide +kernel
theorem dX6_init_27 : decode cX6_init 27 = .ok (.aload_n 0, 1) := by decide +kernel
theorem dX6_init_28 : decode cX6_init 28 = .ok (.new 27, 3) := by decide +kernel
theorem dX6_init_31 : decode cX6_init 31 = .ok (.dup, 1) := by decide +kernel
theorem dX6_init_32 : decode cX6_init 32 = .ok (.aload_n 0, 1) := by decide +kernel
theorem dX6_init_33 : decode cX6_init 33 = .ok (.getfield 23, 3) := by decide +kernel
theorem dX6_init_36 : decode cX6_init 36 = .ok (.getfield 29, 3) := by decide +kernel
theorem dX6_init_39 : decode cX6_init 39 = .ok (.invokespecial 33, 3) := by decide +kernel
theorem dX6_init_42 : decode cX6_init 42 = .ok (.putfield 36, 3) := by decide +kernel
theorem dX6_init_45 : decode cX6_init 45 = .ok (.return_, 1) := by decide +kernel
theorem dX6_readText_0 : decode cX6_readText 0 = .ok (.aload_n 0, 1) := by decide +kernel
theorem dX6_readText_1 : decode cX6_readText 1 = .ok (.getfield 14, 3) := by decide +kernel
theorem dX6_readText_4 : decode cX6_readText 4 = .ok (.iload_n 1, 1) := by decide +kernel
theorem dX6_readText_5 : decode cX6_readText 5 = .ok (.invokevirtual 40, 3) := by decide +kernel
theorem dX6_readText_8 : decode cX6_readText 8 = .ok (.aload_n 0, 1) := by decide +kernel
theorem dX6_readText_9 : decode cX6_readText 9 = .ok (.getfield 23, 3) := by decide +kernel
theorem dX6_readText_12 : decode cX6_readText 12 = .ok (.getfield 44, 3) := by decide +kernel
theorem dX6_readText_15 : decode cX6_readText 15 = .ok (.invokevirtual 48, 3) := by decide +kernel
theorem dX6_readText_18 : decode cX6_readText 18 = .ok (.aload_n 0, 1) := by decide +kernel
theorem dX6_readText_19 : decode cX6_readText 19 = .ok (.getfield 23, 3) := by decide +kernel
theorem dX6_readText_22 : decode cX6_readText 22 = .ok (.getfield 29, 3) := by decide +kernel
theorem dX6_readText_25 : decode cX6_readText 25 = .ok (.invokevirtual 53, 3) := by decide +kernel
theorem dX6_readText_28 : decode cX6_readText 28 = .ok (.aload_n 0, 1) := by decide +kernel
theorem dX6_readText_29 : decode cX6_readText 29 = .ok (.getfield 36, 3) := by decide +kernel
theorem dX6_readText_32 : decode cX6_readText 32 = .ok (.aload_n 0, 1) := by decide +kernel
theorem dX6_readText_33 : decode cX6_readText 33 = .ok (.getfield 23, 3) := by decide +kernel
theorem dX6_readText_36 : decode cX6_readText 36 = .ok (.getfield 29, 3) := by decide +kernel
theorem dX6_readText_39 : decode cX6_readText 39 = .ok (.invokevirtual 56, 3) := by decide +kernel
theorem dX6_readText_42 : decode cX6_readText 42 = .ok (.aload_n 0, 1) := by decide +kernel
theorem dX6_readText_43 : decode cX6_readText 43 = .ok (.iconst 0, 1) := by decide +kernel
theorem dX6_readText_44 : decode cX6_readText 44 = .ok (.putfield 58, 3) := by decide +kernel
theorem dX6_readText_47 : decode cX6_readText 47 = .ok (.iconst 0, 1) := by decide +kernel
theorem dX6_readText_48 : decode cX6_readText 48 = .ok (.istore_n 2, 1) := by decide +kernel
theorem dX6_readText_49 : decode cX6_readText 49 = .ok (.iload_n 2, 1) := by decide +kernel
theorem dX6_readText_50 : decode cX6_readText 50 = .ok (.sipush 160, 3) := by decide +kernel
theorem dX6_readText_53 : decode cX6_readText 53 = .ok (.if_icmp .gt 70, 3) := by decide +kernel
theorem dX6_readText_56 : decode cX6_readText 56 = .ok (.aload_n 0, 1) := by decide +kernel
theorem dX6_readText_57 : decode cX6_readText 57 = .ok (.getfield 14, 3) := by decide +kernel
theorem dX6_readText_60 : decode cX6_readText 60 = .ok (.invokevirtual 62, 3) := by decide +kernel
theorem dX6_readText_63 : decode cX6_readText 63 = .ok (.aload_n 0, 1) := by decide +kernel
theorem dX6_readText_64 : decode cX6_readText 64 = .ok (.getfield 58, 3) := by decide +kernel
theorem dX6_readText_67 : decode cX6_readText 67 = .ok (.iconst 4, 1) := by decide +kernel
theorem dX6_readText_68 : decode cX6_readText 68 = .ok (.if_icmp .ne 10, 3) := by decide +kernel
theorem dX6_readText_71 : decode cX6_readText 71 = .ok (.aload_n 0, 1) := by decide +kernel
theorem dX6_readText_72 : decode cX6_readText 72 = .ok (.invokevirtual 65, 3) := by decide +kernel
theorem dX6_readText_75 : decode cX6_readText 75 = .ok (.goto 22, 3) := by decide +kernel
theorem dX6_readText_78 : decode cX6_readText 78 = .ok (.aload_n 0, 1) := by decide +kernel
theorem dX6_readText_79 : decode cX6_readText 79 = .ok (.getfield 58, 3) := by decide +kernel
theorem dX6_readText_82 : decode cX6_readText 82 = .ok (.iconst 5, 1) := by decide +kernel
theorem dX6_readText_83 : decode cX6_readText 83 = .ok (.if_icmp .ne 10, 3) := by decide +kernel
theorem dX6_readText_86 : decode cX6_readText 86 = .ok (.aload_n 0, 1) := by decide +kernel
theorem dX6_readText_87 : decode cX6_readText 87 = .ok (.invokevirtual 69, 3) := by decide +kernel
theorem dX6_readText_90 : decode cX6_readText 90 = .ok (.goto 7, 3) := by decide +kernel
theorem dX6_readText_93 : decode cX6_readText 93 = .ok (.aload_n 0, 1) := by decide +kernel
theorem dX6_readText_94 : decode cX6_readText 94 = .ok (.invokevirtual 72, 3) := by decide +kernel
theorem dX6_readText_97 : decode cX6_readText 97 = .ok (.istore_n 3, 1) := by decide +kernel
theorem dX6_readText_98 : decode cX6_readText 98 = .ok (.iload_n 3, 1) := by decide +kernel
theorem dX6_readText_99 : decode cX6_readText 99 = .ok (.ifCond .ne 16, 3) := by decide +kernel
theorem dX6_readText_102 : decode cX6_readText 102 = .ok (.aload_n 0, 1) := by decide +kernel
theorem dX6_readText_103 : decode cX6_readText 103 = .ok (.getfield 14, 3) := by decide +kernel
theorem dX6_readText_106 : decode cX6_readText 106 = .ok (.getfield 75, 3) := by decide +kernel
theorem dX6_readText_109 : decode cX6_readText 109 = .ok (.sipush 514, 3) := by decide +kernel
theorem dX6_readText_112 : decode cX6_readText 112 = .ok (.if_icmp .ne 5, 3) := by decide +kernel
theorem dX6_readText_115 : decode cX6_readText 115 = .ok (.iload_n 3, 1) := by decide +kernel
theorem dX6_readText_116 : decode cX6_readText 116 = .ok (.ireturn, 1) := by decide +kernel
theorem dX6_readText_117 : decode cX6_readText 117 = .ok (.iinc 2 1, 3) := by decide +kernel
theorem dX6_readText_120 : decode cX6_readText 120 = .ok (.goto (-71), 3) := by decide +kernel
theorem dX6_readText_123 : decode cX6_readText 123 = .ok (.iconst 4, 1) := by decide +kernel
theorem dX6_readText_124 : decode cX6_readText 124 = .ok (.ireturn, 1) := by decide +kernel
theorem dX6_place_0 : decode cX6_place 0 = .ok (.aload_n 0, 1) := by decide +kernel
theorem dX6_place_1 : decode cX6_place 1 = .ok (.getfield 14, 3) := by decide +kernel
theorem dX6_place_4 : decode cX6_place 4 = .ok (.getfield 78, 3) := by decide +kernel
theorem dX6_place_7 : decode cX6_place 7 = .ok (.ireturn, 1) := by decide +kernel
theorem dX6_exchange_0 : decode cX6_exchange 0 = .ok (.aload_n 0, 1) := by decide +kernel
theorem dX6_exchange_1 : decode cX6_exchange 1 = .ok (.getfield 23, 3) := by decide +kernel
theorem dX6_exchange_4 : decode cX6_exchange 4 = .ok (.astore_n 2, 1) := by decide +kernel
theorem dX6_exchange_5 : decode cX6_exchange 5 = .ok (.aload_n 0, 1) := by decide +kernel
theorem dX6_exchange_6 : decode cX6_exchange 6 = .ok (.aload_n 1, 1) := by decide +kernel
theorem dX6_exchange_7 : decode cX6_exchange 7 = .ok (.putfield 23, 3) := by decide +kernel
theorem dX6_exchange_10 : decode cX6_exchange 10 = .ok (.aload_n 2, 1) := by decide +kernel
theorem dX6_exchange_11 : decode cX6_exchange 11 = .ok (.areturn, 1) := by decide +kernel
theorem dX6_takeInBlocks_0 : decode cX6_takeInBlocks 0 = .ok (.aload_n 0, 1) := by decide +kernel
theorem dX6_takeInBlocks_1 : decode cX6_takeInBlocks 1 = .ok (.getfield 14, 3) := by decide +kernel
theorem dX6_takeInBlocks_4 : decode cX6_takeInBlocks 4 = .ok (.getfield 75, 3) := by decide +kernel
theorem dX6_takeInBlocks_7 : decode cX6_takeInBlocks 7 = .ok (.istore_n 1, 1) := by decide +kernel
theorem dX6_takeInBlocks_8 : decode cX6_takeInBlocks 8 = .ok (.iload_n 1, 1) := by decide +kernel
theorem dX6_takeInBlocks_9 : decode cX6_takeInBlocks 9 = .ok (.sipush 512, 3) := by decide +kernel
theorem dX6_takeInBlocks_12 : decode cX6_takeInBlocks 12 = .ok (.if_icmp .eq 10, 3) := by decide +kernel
theorem dX6_takeInBlocks_15 : decode cX6_takeInBlocks 15 = .ok (.iload_n 1, 1) := by decide +kernel
theorem dX6_takeInBlocks_16 : decode cX6_takeInBlocks 16 = .ok (.sipush 513, 3) := by decide +kernel
theorem dX6_takeInBlocks_19 : decode cX6_takeInBlocks 19 = .ok (.if_icmp .ne 46, 3) := by decide +kernel
theorem dX6_takeInBlocks_22 : decode cX6_takeInBlocks 22 = .ok (.aload_n 0, 1) := by decide +kernel
theorem dX6_takeInBlocks_23 : decode cX6_takeInBlocks 23 = .ok (.getfield 58, 3) := by decide +kernel
theorem dX6_takeInBlocks_26 : decode cX6_takeInBlocks 26 = .ok (.ifCond .eq 11, 3) := by decide +kernel
theorem dX6_takeInBlocks_29 : decode cX6_takeInBlocks 29 = .ok (.aload_n 0, 1) := by decide +kernel
theorem dX6_takeInBlocks_30 : decode cX6_takeInBlocks 30 = .ok (.getfield 58, 3) := by decide +kernel
theorem dX6_takeInBlocks_33 : decode cX6_takeInBlocks 33 = .ok (.iconst 1, 1) := by decide +kernel
theorem dX6_takeInBlocks_34 : decode cX6_takeInBlocks 34 = .ok (.if_icmp .ne 31, 3) := by decide +kernel
theorem dX6_takeInBlocks_37 : decode cX6_takeInBlocks 37 = .ok (.aload_n 0, 1) := by decide +kernel
theorem dX6_takeInBlocks_38 : decode cX6_takeInBlocks 38 = .ok (.iconst 2, 1) := by decide +kernel
theorem dX6_takeInBlocks_39 : decode cX6_takeInBlocks 39 = .ok (.putfield 58, 3) := by decide +kernel
theorem dX6_takeInBlocks_42 : decode cX6_takeInBlocks 42 = .ok (.aload_n 0, 1) := by decide +kernel
theorem dX6_takeInBlocks_43 : decode cX6_takeInBlocks 43 = .ok (.getfield 23, 3) := by decide +kernel
theorem dX6_takeInBlocks_46 : decode cX6_takeInBlocks 46 = .ok (.getfield 44, 3) := by decide +kernel
theorem dX6_takeInBlocks_49 : decode cX6_takeInBlocks 49 = .ok (.iload_n 1, 1) := by decide +kernel
theorem dX6_takeInBlocks_50 : decode cX6_takeInBlocks 50 = .ok (.sipush 512, 3) := by decide +kernel
theorem dX6_takeInBlocks_53 : decode cX6_takeInBlocks 53 = .ok (.if_icmp .ne 7, 3) := by decide +kernel
theorem dX6_takeInBlocks_56 : decode cX6_takeInBlocks 56 = .ok (.iconst 0, 1) := by decide +kernel
theorem dX6_takeInBlocks_57 : decode cX6_takeInBlocks 57 = .ok (.goto 4, 3) := by decide +kernel
theorem dX6_takeInBlocks_60 : decode cX6_takeInBlocks 60 = .ok (.iconst 1, 1) := by decide +kernel
theorem dX6_takeInBlocks_61 : decode cX6_takeInBlocks 61 = .ok (.invokevirtual 81, 3) := by decide +kernel
theorem dX6_takeInBlocks_64 : decode cX6_takeInBlocks 64 = .ok (.ireturn, 1) := by decide +kernel
theorem dX6_takeInBlocks_65 : decode cX6_takeInBlocks 65 = .ok (.iload_n 1, 1) := by decide +kernel
theorem dX6_takeInBlocks_66 : decode cX6_takeInBlocks 66 = .ok (.sipush 256, 3) := by decide +kernel
theorem dX6_takeInBlocks_69 : decode cX6_takeInBlocks 69 = .ok (.if_icmp .ne 42, 3) := by decide +kernel
theorem dX6_takeInBlocks_72 : decode cX6_takeInBlocks 72 = .ok (.aload_n 0, 1) := by decide +kernel
theorem dX6_takeInBlocks_73 : decode cX6_takeInBlocks 73 = .ok (.getfield 58, 3) := by decide +kernel
theorem dX6_takeInBlocks_76 : decode cX6_takeInBlocks 76 = .ok (.iconst 2, 1) := by decide +kernel
theorem dX6_takeInBlocks_77 : decode cX6_takeInBlocks 77 = .ok (.if_icmp .eq 11, 3) := by decide +kernel
theorem dX6_takeInBlocks_80 : decode cX6_takeInBlocks 80 = .ok (.aload_n 0, 1) := by decide +kernel
theorem dX6_takeInBlocks_81 : decode cX6_takeInBlocks 81 = .ok (.getfield 58, 3) := by decide +kernel
theorem dX6_takeInBlocks_84 : decode cX6_takeInBlocks 84 = .ok (.iconst 3, 1) := by decide +kernel
theorem dX6_takeInBlocks_85 : decode cX6_takeInBlocks 85 = .ok (.if_icmp .ne 26, 3) := by decide +kernel
theorem dX6_takeInBlocks_88 : decode cX6_takeInBlocks 88 = .ok (.aload_n 0, 1) := by decide +kernel
theorem dX6_takeInBlocks_89 : decode cX6_takeInBlocks 89 = .ok (.iconst 3, 1) := by decide +kernel
theorem dX6_takeInBlocks_90 : decode cX6_takeInBlocks 90 = .ok (.putfield 58, 3) := by decide +kernel
theorem dX6_takeInBlocks_93 : decode cX6_takeInBlocks 93 = .ok (.aload_n 0, 1) := by decide +kernel
theorem dX6_takeInBlocks_94 : decode cX6_takeInBlocks 94 = .ok (.getfield 23, 3) := by decide +kernel
theorem dX6_takeInBlocks_97 : decode cX6_takeInBlocks 97 = .ok (.getfield 44, 3) := by decide +kernel
theorem dX6_takeInBlocks_100 : decode cX6_takeInBlocks 100 = .ok (.aload_n 0, 1) := by decide +kernel
theorem dX6_takeInBlocks_101 : decode cX6_takeInBlocks 101 = .ok (.getfield 14, 3) := by decide +kernel
theorem dX6_takeInBlocks_104 : decode cX6_takeInBlocks 104 = .ok (.getfield 85, 3) := by decide +kernel
theorem dX6_takeInBlocks_107 : decode cX6_takeInBlocks 107 = .ok (.invokevirtual 88, 3) := by decide +kernel
theorem dX6_takeInBlocks_110 : decode cX6_takeInBlocks 110 = .ok (.ireturn, 1) := by decide +kernel
theorem dX6_takeInBlocks_111 : decode cX6_takeInBlocks 111 = .ok (.iload_n 1, 1) := by decide +kernel
theorem dX6_takeInBlocks_112 : decode cX6_takeInBlocks 112 = .ok (.bipush 59, 2) := by decide +kernel
theorem dX6_takeInBlocks_114 : decode cX6_takeInBlocks 114 = .ok (.if_icmp .ne 18, 3) := by decide +kernel
theorem dX6_takeInBlocks_117 : decode cX6_takeInBlocks 117 = .ok (.aload_n 0, 1) := by decide +kernel
theorem dX6_takeInBlocks_118 : decode cX6_takeInBlocks 118 = .ok (.getfield 58, 3) := by decide +kernel
theorem dX6_takeInBlocks_121 : decode cX6_takeInBlocks 121 = .ok (.iconst 3, 1) := by decide +kernel
theorem dX6_takeInBlocks_122 : decode cX6_takeInBlocks 122 = .ok (.if_icmp .ne 10, 3) := by decide +kernel
theorem dX6_takeInBlocks_125 : decode cX6_takeInBlocks 125 = .ok (.aload_n 0, 1) := by decide +kernel
theorem dX6_takeInBlocks_126 : decode cX6_takeInBlocks 126 = .ok (.iconst 1, 1) := by decide +kernel
theorem dX6_takeInBlocks_127 : decode cX6_takeInBlocks 127 = .ok (.putfield 58, 3) := by decide +kernel
theorem dX6_takeInBlocks_130 : decode cX6_takeInBlocks 130 = .ok (.iconst 0, 1) := by decide +kernel
theorem dX6_takeInBlocks_131 : decode cX6_takeInBlocks 131 = .ok (.ireturn, 1) := by decide +kernel
theorem dX6_takeInBlocks_132 : decode cX6_takeInBlocks 132 = .ok (.iload_n 1, 1) := by decide +kernel
theorem dX6_takeInBlocks_133 : decode cX6_takeInBlocks 133 = .ok (.bipush 58, 2) := by decide +kernel
theorem dX6_takeInBlocks_135 : decode cX6_takeInBlocks 135 = .ok (.if_icmp .ne 25, 3) := by decide +kernel
theorem dX6_takeInBlocks_138 : decode cX6_takeInBlocks 138 = .ok (.aload_n 0, 1) := by decide +kernel
theorem dX6_takeInBlocks_139 : decode cX6_takeInBlocks 139 = .ok (.getfield 58, 3) := by decide +kernel
theorem dX6_takeInBlocks_142 : decode cX6_takeInBlocks 142 = .ok (.ifCond .eq 11, 3) := by decide +kernel
theorem dX6_takeInBlocks_145 : decode cX6_takeInBlocks 145 = .ok (.aload_n 0, 1) := by decide +kernel
theorem dX6_takeInBlocks_146 : decode cX6_takeInBlocks 146 = .ok (.getfield 58, 3) := by decide +kernel
theorem dX6_takeInBlocks_149 : decode cX6_takeInBlocks 149 = .ok (.iconst 3, 1) := by decide +kernel
theorem dX6_takeInBlocks_150 : decode cX6_takeInBlocks 150 = .ok (.if_icmp .ne 10, 3) := by decide +kernel
theorem dX6_takeInBlocks_153 : decode cX6_takeInBlocks 153 = .ok (.aload_n 0, 1) := by decide +kernel
theorem dX6_takeInBlocks_154 : decode cX6_takeInBlocks 154 = .ok (.iconst 4, 1) := by decide +kernel
theorem dX6_takeInBlocks_155 : decode cX6_takeInBlocks 155 = .ok (.putfield 58, 3) := by decide +kernel
theorem dX6_takeInBlocks_158 : decode cX6_takeInBlocks 158 = .ok (.iconst 0, 1) := by decide +kernel
theorem dX6_takeInBlocks_159 : decode cX6_takeInBlocks 159 = .ok (.ireturn, 1) := by decide +kernel
theorem dX6_takeInBlocks_160 : decode cX6_takeInBlocks 160 = .ok (.iconst 1, 1) := by decide +kernel
theorem dX6_takeInBlocks_161 : decode cX6_takeInBlocks 161 = .ok (.ireturn, 1) := by decide +kernel
theorem dX6_takeOperand_0 : decode cX6_takeOperand 0 = .ok (.aload_n 0, 1) := by decide +kernel
theorem dX6_takeOperand_1 : decode cX6_takeOperand 1 = .ok (.getfield 14, 3) := by decide +kernel
theorem dX6_takeOperand_4 : decode cX6_takeOperand 4 = .ok (.getfield 75, 3) := by decide +kernel
theorem dX6_takeOperand_7 : decode cX6_takeOperand 7 = .ok (.istore_n 1, 1) := by decide +kernel
theorem dX6_takeOperand_8 : decode cX6_takeOperand 8 = .ok (.iload_n 1, 1) := by decide +kernel
theorem dX6_takeOperand_9 : decode cX6_takeOperand 9 = .ok (.bipush 33, 2) := by decide +kernel
theorem dX6_takeOperand_11 : decode cX6_takeOperand 11 = .ok (.if_icmp .eq 9, 3) := by decide +kernel
theorem dX6_takeOperand_14 : decode cX6_takeOperand 14 = .ok (.iload_n 1, 1) := by decide +kernel
theorem dX6_takeOperand_15 : decode cX6_takeOperand 15 = .ok (.bipush 40, 2) := by decide +kernel
theorem dX6_takeOperand_17 : decode cX6_takeOperand 17 = .ok (.if_icmp .ne 20, 3) := by decide +kernel
theorem dX6_takeOperand_20 : decode cX6_takeOperand 20 = .ok (.aload_n 0, 1) := by decide +kernel
theorem dX6_takeOperand_21 : decode cX6_takeOperand 21 = .ok (.getfield 36, 3) := by decide +kernel
theorem dX6_takeOperand_24 : decode cX6_takeOperand 24 = .ok (.iload_n 1, 1) := by decide +kernel
theorem dX6_takeOperand_25 : decode cX6_takeOperand 25 = .ok (.invokevirtual 91, 3) := by decide +kernel
theorem dX6_takeOperand_28 : decode cX6_takeOperand 28 = .ok (.ifCond .eq 7, 3) := by decide +kernel
theorem dX6_takeOperand_31 : decode cX6_takeOperand 31 = .ok (.iconst 0, 1) := by decide +kernel
theorem dX6_takeOperand_32 : decode cX6_takeOperand 32 = .ok (.goto 4, 3) := by decide +kernel
theorem dX6_takeOperand_35 : decode cX6_takeOperand 35 = .ok (.iconst 1, 1) := by decide +kernel
theorem dX6_takeOperand_36 : decode cX6_takeOperand 36 = .ok (.ireturn, 1) := by decide +kernel
theorem dX6_takeOperand_37 : decode cX6_takeOperand 37 = .ok (.iload_n 1, 1) := by decide +kernel
theorem dX6_takeOperand_38 : decode cX6_takeOperand 38 = .ok (.sipush 256, 3) := by decide +kernel
theorem dX6_takeOperand_41 : decode cX6_takeOperand 41 = .ok (.if_icmp .eq 17, 3) := by decide +kernel
theorem dX6_takeOperand_44 : decode cX6_takeOperand 44 = .ok (.iload_n 1, 1) := by decide +kernel
theorem dX6_takeOperand_45 : decode cX6_takeOperand 45 = .ok (.bipush 48, 2) := by decide +kernel
theorem dX6_takeOperand_47 : decode cX6_takeOperand 47 = .ok (.if_icmp .eq 11, 3) := by decide +kernel
theorem dX6_takeOperand_50 : decode cX6_takeOperand 50 = .ok (.iload_n 1, 1) := by decide +kernel
theorem dX6_takeOperand_51 : decode cX6_takeOperand 51 = .ok (.bipush 49, 2) := by decide +kernel
theorem dX6_takeOperand_53 : decode cX6_takeOperand 53 = .ok (.if_icmp .eq 5, 3) := by decide +kernel
theorem dX6_takeOperand_56 : decode cX6_takeOperand 56 = .ok (.iconst 1, 1) := by decide +kernel
theorem dX6_takeOperand_57 : decode cX6_takeOperand 57 = .ok (.ireturn, 1) := by decide +kernel
theorem dX6_takeOperand_58 : decode cX6_takeOperand 58 = .ok (.iload_n 1, 1) := by decide +kernel
theorem dX6_takeOperand_59 : decode cX6_takeOperand 59 = .ok (.sipush 256, 3) := by decide +kernel
theorem dX6_takeOperand_62 : decode cX6_takeOperand 62 = .ok (.if_icmp .ne 23, 3) := by decide +kernel
theorem dX6_takeOperand_65 : decode cX6_takeOperand 65 = .ok (.aload_n 0, 1) := by decide +kernel
theorem dX6_takeOperand_66 : decode cX6_takeOperand 66 = .ok (.getfield 23, 3) := by decide +kernel
theorem dX6_takeOperand_69 : decode cX6_takeOperand 69 = .ok (.getfield 44, 3) := by decide +kernel
theorem dX6_takeOperand_72 : decode cX6_takeOperand 72 = .ok (.aload_n 0, 1) := by decide +kernel
theorem dX6_takeOperand_73 : decode cX6_takeOperand 73 = .ok (.getfield 14, 3) := by decide +kernel
theorem dX6_takeOperand_76 : decode cX6_takeOperand 76 = .ok (.getfield 85, 3) := by decide +kernel
theorem dX6_takeOperand_79 : decode cX6_takeOperand 79 = .ok (.invokevirtual 95, 3) := by decide +kernel
theorem dX6_takeOperand_82 : decode cX6_takeOperand 82 = .ok (.goto 4, 3) := by decide +kernel
theorem dX6_takeOperand_85 : decode cX6_takeOperand 85 = .ok (.iconst 0, 1) := by decide +kernel
theorem dX6_takeOperand_86 : decode cX6_takeOperand 86 = .ok (.istore_n 2, 1) := by decide +kernel
theorem dX6_takeOperand_87 : decode cX6_takeOperand 87 = .ok (.iload_n 2, 1) := by decide +kernel
theorem dX6_takeOperand_88 : decode cX6_takeOperand 88 = .ok (.iconst (-1), 1) := by decide +kernel
theorem dX6_takeOperand_89 : decode cX6_takeOperand 89 = .ok (.if_icmp .ne 5, 3) := by decide +kernel
theorem dX6_takeOperand_92 : decode cX6_takeOperand 92 = .ok (.iconst 2, 1) := by decide +kernel
theorem dX6_takeOperand_93 : decode cX6_takeOperand 93 = .ok (.ireturn, 1) := by decide +kernel
theorem dX6_takeOperand_94 : decode cX6_takeOperand 94 = .ok (.aload_n 0, 1) := by decide +kernel
theorem dX6_takeOperand_95 : decode cX6_takeOperand 95 = .ok (.getfield 36, 3) := by decide +kernel
theorem dX6_takeOperand_98 : decode cX6_takeOperand 98 = .ok (.iload_n 1, 1) := by decide +kernel
theorem dX6_takeOperand_99 : decode cX6_takeOperand 99 = .ok (.iload_n 2, 1) := by decide +kernel
theorem dX6_takeOperand_100 : decode cX6_takeOperand 100 = .ok (.iadd, 1) := by decide +kernel
theorem dX6_takeOperand_101 : decode cX6_takeOperand 101 = .ok (.invokevirtual 98, 3) := by decide +kernel
theorem dX6_takeOperand_104 : decode cX6_takeOperand 104 = .ok (.aload_n 0, 1) := by decide +kernel
theorem dX6_takeOperand_105 : decode cX6_takeOperand 105 = .ok (.iconst 5, 1) := by decide +kernel
theorem dX6_takeOperand_106 : decode cX6_takeOperand 106 = .ok (.putfield 58, 3) := by decide +kernel
theorem dX6_takeOperand_109 : decode cX6_takeOperand 109 = .ok (.iconst 0, 1) := by decide +kernel
theorem dX6_takeOperand_110 : decode cX6_takeOperand 110 = .ok (.ireturn, 1) := by decide +kernel
theorem dX6_takeOperator_0 : decode cX6_takeOperator 0 = .ok (.aload_n 0, 1) := by decide +kernel
theorem dX6_takeOperator_1 : decode cX6_takeOperator 1 = .ok (.getfield 14, 3) := by decide +kernel
theorem dX6_takeOperator_4 : decode cX6_takeOperator 4 = .ok (.getfield 75, 3) := by decide +kernel
theorem dX6_takeOperator_7 : decode cX6_takeOperator 7 = .ok (.istore_n 1, 1) := by decide +kernel
theorem dX6_takeOperator_8 : decode cX6_takeOperator 8 = .ok (.iload_n 1, 1) := by decide +kernel
theorem dX6_takeOperator_9 : decode cX6_takeOperator 9 = .ok (.sipush 514, 3) := by decide +kernel
theorem dX6_takeOperator_12 : decode cX6_takeOperator 12 = .ok (.if_icmp .ne 19, 3) := by decide +kernel
theorem dX6_takeOperator_15 : decode cX6_takeOperator 15 = .ok (.aload_n 0, 1) := by decide +kernel
theorem dX6_takeOperator_16 : decode cX6_takeOperator 16 = .ok (.getfield 36, 3) := by decide +kernel
theorem dX6_takeOperator_19 : decode cX6_takeOperator 19 = .ok (.invokevirtual 101, 3) := by decide +kernel
theorem dX6_takeOperator_22 : decode cX6_takeOperator 22 = .ok (.ifCond .eq 7, 3) := by decide +kernel
theorem dX6_takeOperator_25 : decode cX6_takeOperator 25 = .ok (.iconst 0, 1) := by decide +kernel
theorem dX6_takeOperator_26 : decode cX6_takeOperator 26 = .ok (.goto 4, 3) := by decide +kernel
theorem dX6_takeOperator_29 : decode cX6_takeOperator 29 = .ok (.iconst 1, 1) := by decide +kernel
theorem dX6_takeOperator_30 : decode cX6_takeOperator 30 = .ok (.ireturn, 1) := by decide +kernel
theorem dX6_takeOperator_31 : decode cX6_takeOperator 31 = .ok (.iload_n 1, 1) := by decide +kernel
theorem dX6_takeOperator_32 : decode cX6_takeOperator 32 = .ok (.bipush 41, 2) := by decide +kernel
theorem dX6_takeOperator_34 : decode cX6_takeOperator 34 = .ok (.if_icmp .ne 19, 3) := by decide +kernel
theorem dX6_takeOperator_37 : decode cX6_takeOperator 37 = .ok (.aload_n 0, 1) := by decide +kernel
theorem dX6_takeOperator_38 : decode cX6_takeOperator 38 = .ok (.getfield 36, 3) := by decide +kernel
theorem dX6_takeOperator_41 : decode cX6_takeOperator 41 = .ok (.invokevirtual 105, 3) := by decide +kernel
theorem dX6_takeOperator_44 : decode cX6_takeOperator 44 = .ok (.ifCond .eq 7, 3) := by decide +kernel
theorem dX6_takeOperator_47 : decode cX6_takeOperator 47 = .ok (.iconst 0, 1) := by decide +kernel
theorem dX6_takeOperator_48 : decode cX6_takeOperator 48 = .ok (.goto 4, 3) := by decide +kernel
theorem dX6_takeOperator_51 : decode cX6_takeOperator 51 = .ok (.iconst 1, 1) := by decide +kernel
theorem dX6_takeOperator_52 : decode cX6_takeOperator 52 = .ok (.ireturn, 1) := by decide +kernel
theorem dX6_takeOperator_53 : decode cX6_takeOperator 53 = .ok (.iload_n 1, 1) := by decide +kernel
theorem dX6_takeOperator_54 : decode cX6_takeOperator 54 = .ok (.invokestatic 108, 3) := by decide +kernel
theorem dX6_takeOperator_57 : decode cX6_takeOperator 57 = .ok (.ifCond .eq 9, 3) := by decide +kernel
theorem dX6_takeOperator_60 : decode cX6_takeOperator 60 = .ok (.iload_n 1, 1) := by decide +kernel
theorem dX6_takeOperator_61 : decode cX6_takeOperator 61 = .ok (.bipush 33, 2) := by decide +kernel
theorem dX6_takeOperator_63 : decode cX6_takeOperator 63 = .ok (.if_icmp .ne 5, 3) := by decide +kernel
theorem dX6_takeOperator_66 : decode cX6_takeOperator 66 = .ok (.iconst 1, 1) := by decide +kernel
theorem dX6_takeOperator_67 : decode cX6_takeOperator 67 = .ok (.ireturn, 1) := by decide +kernel
theorem dX6_takeOperator_68 : decode cX6_takeOperator 68 = .ok (.aload_n 0, 1) := by decide +kernel
theorem dX6_takeOperator_69 : decode cX6_takeOperator 69 = .ok (.getfield 36, 3) := by decide +kernel
theorem dX6_takeOperator_72 : decode cX6_takeOperator 72 = .ok (.iload_n 1, 1) := by decide +kernel
theorem dX6_takeOperator_73 : decode cX6_takeOperator 73 = .ok (.invokevirtual 111, 3) := by decide +kernel
theorem dX6_takeOperator_76 : decode cX6_takeOperator 76 = .ok (.aload_n 0, 1) := by decide +kernel
theorem dX6_takeOperator_77 : decode cX6_takeOperator 77 = .ok (.iconst 4, 1) := by decide +kernel
theorem dX6_takeOperator_78 : decode cX6_takeOperator 78 = .ok (.putfield 58, 3) := by decide +kernel
theorem dX6_takeOperator_81 : decode cX6_takeOperator 81 = .ok (.iconst 0, 1) := by decide +kernel
theorem dX6_takeOperator_82 : decode cX6_takeOperator 82 = .ok (.ireturn, 1) := by decide +kernel
theorem dX7_init_0 : decode cX7_init 0 = .ok (.aload_n 0, 1) := by decide +kernel
theorem dX7_init_1 : decode cX7_init 1 = .ok (.invokespecial 3, 3) := by decide +kernel
theorem dX7_init_4 : decode cX7_init 4 = .ok (.aload_n 0, 1) := by decide +kernel
theorem dX7_init_5 : decode cX7_init 5 = .ok (.aload_n 1, 1) := by decide +kernel
theorem dX7_init_6 : decode cX7_init 6 = .ok (.putfield 9, 3) := by decide +kernel
theorem dX7_init_9 : decode cX7_init 9 = .ok (.return_, 1) := by decide +kernel
theorem dX7_begin_0 : decode cX7_begin 0 = .ok (.aload_n 0, 1) := by decide +kernel
theorem dX7_begin_1 : decode cX7_begin 1 = .ok (.iload_n 1, 1) := by decide +kernel
theorem dX7_begin_2 : decode cX7_begin 2 = .ok (.putfield 15, 3) := by decide +kernel
theorem dX7_begin_5 : decode cX7_begin 5 = .ok (.aload_n 0, 1) := by decide +kernel
theorem dX7_begin_6 : decode cX7_begin 6 = .ok (.iconst 0, 1) := by decide +kernel
theorem dX7_begin_7 : decode cX7_begin 7 = .ok (.putfield 19, 3) := by decide +kernel
theorem dX7_begin_10 : decode cX7_begin 10 = .ok (.return_, 1) := by decide +kernel
theorem dX7_advance_0 : decode cX7_advance 0 = .ok (.aload_n 0, 1) := by decide +kernel
theorem dX7_advance_1 : decode cX7_advance 1 = .ok (.getfield 19, 3) := by decide +kernel
theorem dX7_advance_4 : decode cX7_advance 4 = .ok (.aload_n 0, 1) := by decide +kernel
theorem dX7_advance_5 : decode cX7_advance 5 = .ok (.getfield 15, 3) := by decide +kernel
theorem dX7_advance_8 : decode cX7_advance 8 = .ok (.if_icmp .ge 33, 3) := by decide +kernel
theorem dX7_advance_11 : decode cX7_advance 11 = .ok (.aload_n 0, 1) := by decide +kernel
theorem dX7_advance_12 : decode cX7_advance 12 = .ok (.getfield 9, 3) := by decide +kernel
theorem dX7_advance_15 : decode cX7_advance 15 = .ok (.aload_n 0, 1) := by decide +kernel
theorem dX7_advance_16 : decode cX7_advance 16 = .ok (.getfield 19, 3) := by decide +kernel
theorem dX7_advance_19 : decode cX7_advance 19 = .ok (.invokevirtual 22, 3) := by decide +kernel
theorem dX7_advance_22 : decode cX7_advance 22 = .ok (.invokestatic 28, 3) := by decide +kernel
theorem dX7_advance_25 : decode cX7_advance 25 = .ok (.ifCond .eq 16, 3) := by decide +kernel
theorem dX7_advance_28 : decode cX7_advance 28 = .ok (.aload_n 0, 1) := by decide +kernel
theorem dX7_advance_29 : decode cX7_advance 29 = .ok (.dup, 1) := by decide +kernel
theorem dX7_advance_30 : decode cX7_advance 30 = .ok (.getfield 19, 3) := by decide +kernel
theorem dX7_advance_33 : decode cX7_advance 33 = .ok (.iconst 1, 1) := by decide +kernel
theorem dX7_advance_34 : decode cX7_advance 34 = .ok (.iadd, 1) := by decide +kernel
theorem dX7_advance_35 : decode cX7_advance 35 = .ok (.putfield 19, 3) := by decide +kernel
theorem dX7_advance_38 : decode cX7_advance 38 = .ok (.goto (-38), 3) := by decide +kernel
theorem dX7_advance_41 : decode cX7_advance 41 = .ok (.aload_n 0, 1) := by decide +kernel
theorem dX7_advance_42 : decode cX7_advance 42 = .ok (.aload_n 0, 1) := by decide +kernel
theorem dX7_advance_43 : decode cX7_advance 43 = .ok (.getfield 19, 3) := by decide +kernel
theorem dX7_advance_46 : decode cX7_advance 46 = .ok (.putfield 32, 3) := by decide +kernel
theorem dX7_advance_49 : decode cX7_advance 49 = .ok (.aload_n 0, 1) := by decide +kernel
theorem dX7_advance_50 : decode cX7_advance 50 = .ok (.getfield 19, 3) := by decide +kernel
theorem dX7_advance_53 : decode cX7_advance 53 = .ok (.aload_n 0, 1) := by decide +kernel
theorem dX7_advance_54 : decode cX7_advance 54 = .ok (.getfield 15, 3) := by decide +kernel
theorem dX7_advance_57 : decode cX7_advance 57 = .ok (.if_icmp .ge 33, 3) := by decide +kernel
theorem dX7_advance_60 : decode cX7_advance 60 = .ok (.aload_n 0, 1) := by decide +kernel
theorem dX7_advance_61 : decode cX7_advance 61 = .ok (.getfield 9, 3) := by decide +kernel
theorem dX7_advance_64 : decode cX7_advance 64 = .ok (.aload_n 0, 1) := by decide +kernel
theorem dX7_advance_65 : decode cX7_advance 65 = .ok (.getfield 19, 3) := by decide +kernel
theorem dX7_advance_68 : decode cX7_advance 68 = .ok (.invokevirtual 22, 3) := by decide +kernel
theorem dX7_advance_71 : decode cX7_advance 71 = .ok (.invokestatic 35, 3) := by decide +kernel
theorem dX7_advance_74 : decode cX7_advance 74 = .ok (.ifCond .eq 16, 3) := by decide +kernel
theorem dX7_advance_77 : decode cX7_advance 77 = .ok (.aload_n 0, 1) := by decide +kernel
theorem dX7_advance_78 : decode cX7_advance 78 = .ok (.dup, 1) := by decide +kernel
theorem dX7_advance_79 : decode cX7_advance 79 = .ok (.getfield 19, 3) := by decide +kernel
theorem dX7_advance_82 : decode cX7_advance 82 = .ok (.iconst 1, 1) := by decide +kernel
theorem dX7_advance_83 : decode cX7_advance 83 = .ok (.iadd, 1) := by decide +kernel
theorem dX7_advance_84 : decode cX7_advance 84 = .ok (.putfield 19, 3) := by decide +kernel
theorem dX7_advance_87 : decode cX7_advance 87 = .ok (.goto (-38), 3) := by decide +kernel
theorem dX7_advance_90 : decode cX7_advance 90 = .ok (.aload_n 0, 1) := by decide +kernel
theorem dX7_advance_91 : decode cX7_advance 91 = .ok (.getfield 19, 3) := by decide +kernel
theorem dX7_advance_94 : decode cX7_advance 94 = .ok (.aload_n 0, 1) := by decide +kernel
theorem dX7_advance_95 : decode cX7_advance 95 = .ok (.getfield 32, 3) := by decide +kernel
theorem dX7_advance_98 : decode cX7_advance 98 = .ok (.if_icmp .le 23, 3) := by decide +kernel
theorem dX7_advance_101 : decode cX7_advance 101 = .ok (.aload_n 0, 1) := by decide +kernel
theorem dX7_advance_102 : decode cX7_advance 102 = .ok (.aload_n 0, 1) := by decide +kernel
theorem dX7_advance_103 : decode cX7_advance 103 = .ok (.aload_n 0, 1) := by decide +kernel
theorem dX7_advance_104 : decode cX7_advance 104 = .ok (.getfield 19, 3) := by decide +kernel
theorem dX7_advance_107 : decode cX7_advance 107 = .ok (.aload_n 0, 1) := by decide +kernel
theorem dX7_advance_108 : decode cX7_advance 108 = .ok (.getfield 32, 3) := by decide +kernel
theorem dX7_advance_111 : decode cX7_advance 111 = .ok (.isub, 1) := by decide +kernel
theorem dX7_advance_112 : decode cX7_advance 112 = .ok (.invokevirtual 38, 3) := by decide +kernel
theorem dX7_advance_115 : decode cX7_advance 115 = .ok (.putfield 41, 3) := by decide +kernel
theorem dX7_advance_118 : decode cX7_advance 118 = .ok (.goto 52, 3) := by decide +kernel
theorem dX7_advance_121 : decode cX7_advance 121 = .ok (.aload_n 0, 1) := by decide +kernel
theorem dX7_advance_122 : decode cX7_advance 122 = .ok (.getfield 19, 3) := by decide +kernel
theorem dX7_advance_125 : decode cX7_advance 125 = .ok (.aload_n 0, 1) := by decide +kernel
theorem dX7_advance_126 : decode cX7_advance 126 = .ok (.getfield 15, 3) := by decide +kernel
theorem dX7_advance_129 : decode cX7_advance 129 = .ok (.if_icmp .ge 34, 3) := by decide +kernel
theorem dX7_advance_132 : decode cX7_advance 132 = .ok (.aload_n 0, 1) := by decide +kernel
theorem dX7_advance_133 : decode cX7_advance 133 = .ok (.aload_n 0, 1) := by decide +kernel
theorem dX7_advance_134 : decode cX7_advance 134 = .ok (.getfield 9, 3) := by decide +kernel
theorem dX7_advance_137 : decode cX7_advance 137 = .ok (.aload_n 0, 1) := by decide +kernel
theorem dX7_advance_138 : decode cX7_advance 138 = .ok (.getfield 19, 3) := by decide +kernel
theorem dX7_advance_141 : decode cX7_advance 141 = .ok (.invokevirtual 22, 3) := by decide +kernel
theorem dX7_advance_144 : decode cX7_advance 144 = .ok (.invokestatic 44, 3) := by decide +kernel
theorem dX7_advance_147 : decode cX7_advance 147 = .ok (.putfield 41, 3) := by decide +kernel
theorem dX7_advance_150 : decode cX7_advance 150 = .ok (.aload_n 0, 1) := by decide +kernel
theorem dX7_advance_151 : decode cX7_advance 151 = .ok (.dup, 1) := by decide +kernel
theorem dX7_advance_152 : decode cX7_advance 152 = .ok (.getfield 19, 3) := by decide +kernel
theorem dX7_advance_155 : decode cX7_advance 155 = .ok (.iconst 1, 1) := by decide +kernel
theorem dX7_advance_156 : decode cX7_advance 156 = .ok (.iadd, 1) := by decide +kernel
theorem dX7_advance_157 : decode cX7_advance 157 = .ok (.putfield 19, 3) := by decide +kernel
theorem dX7_advance_160 : decode cX7_advance 160 = .ok (.goto 10, 3) := by decide +kernel
theorem dX7_advance_163 : decode cX7_advance 163 = .ok (.aload_n 0, 1) := by decide +kernel
theorem dX7_advance_164 : decode cX7_advance 164 = .ok (.sipush 514, 3) := by decide +kernel
theorem dX7_advance_167 : decode cX7_advance 167 = .ok (.putfield 41, 3) := by decide +kernel
theorem dX7_advance_170 : decode cX7_advance 170 = .ok (.return_, 1) := by decide +kernel
theorem dX7_kindOfRun_0 : decode cX7_kindOfRun 0 = .ok (.aload_n 0, 1) := by decide +kernel
theorem dX7_kindOfRun_1 : decode cX7_kindOfRun 1 = .ok (.getfield 9, 3) := by decide +kernel
theorem dX7_kindOfRun_4 : decode cX7_kindOfRun 4 = .ok (.aload_n 0, 1) := by decide +kernel
theorem dX7_kindOfRun_5 : decode cX7_kindOfRun 5 = .ok (.getfield 32, 3) := by decide +kernel
theorem dX7_kindOfRun_8 : decode cX7_kindOfRun 8 = .ok (.invokevirtual 22, 3) := by decide +kernel
theorem dX7_kindOfRun_11 : decode cX7_kindOfRun 11 = .ok (.istore_n 2, 1) := by decide +kernel
theorem dX7_kindOfRun_12 : decode cX7_kindOfRun 12 = .ok (.aload_n 0, 1) := by decide +kernel
theorem dX7_kindOfRun_13 : decode cX7_kindOfRun 13 = .ok (.getfield 9, 3) := by decide +kernel
theorem dX7_kindOfRun_16 : decode cX7_kindOfRun 16 = .ok (.aload_n 0, 1) := by decide +kernel
theorem dX7_kindOfRun_17 : decode cX7_kindOfRun 17 = .ok (.getfield 32, 3) := by decide +kernel
theorem dX7_kindOfRun_20 : decode cX7_kindOfRun 20 = .ok (.iconst 1, 1) := by decide +kernel
theorem dX7_kindOfRun_21 : decode cX7_kindOfRun 21 = .ok (.iadd, 1) := by decide +kernel
theorem dX7_kindOfRun_22 : decode cX7_kindOfRun 22 = .ok (.invokevirtual 22, 3) := by decide +kernel
theorem dX7_kindOfRun_25 : decode cX7_kindOfRun 25 = .ok (.istore_n 3, 1) := by decide +kernel
theorem dX7_kindOfRun_26 : decode cX7_kindOfRun 26 = .ok (.iload_n 1, 1) := by decide +kernel
theorem dX7_kindOfRun_27 : decode cX7_kindOfRun 27 = .ok (.iconst 1, 1) := by decide +kernel
theorem dX7_kindOfRun_28 : decode cX7_kindOfRun 28 = .ok (.if_icmp .ne 17, 3) := by decide +kernel
theorem dX7_kindOfRun_31 : decode cX7_kindOfRun 31 = .ok (.iload_n 2, 1) := by decide +kernel
theorem dX7_kindOfRun_32 : decode cX7_kindOfRun 32 = .ok (.bipush 48, 2) := by decide +kernel
theorem dX7_kindOfRun_34 : decode cX7_kindOfRun 34 = .ok (.if_icmp .eq 9, 3) := by decide +kernel
theorem dX7_kindOfRun_37 : decode cX7_kindOfRun 37 = .ok (.iload_n 2, 1) := by decide +kernel
theorem dX7_kindOfRun_38 : decode cX7_kindOfRun 38 = .ok (.bipush 49, 2) := by decide +kernel
theorem dX7_kindOfRun_40 : decode cX7_kindOfRun 40 = .ok (.if_icmp .ne 5, 3) := by decide +kernel
theorem dX7_kindOfRun_43 : decode cX7_kindOfRun 43 = .ok (.iload_n 2, 1) := by decide +kernel
theorem dX7_kindOfRun_44 : decode cX7_kindOfRun 44 = .ok (.ireturn, 1) := by decide +kernel
theorem dX7_kindOfRun_45 : decode cX7_kindOfRun 45 = .ok (.iload_n 2, 1) := by decide +kernel
theorem dX7_kindOfRun_46 : decode cX7_kindOfRun 46 = .ok (.invokestatic 47, 3) := by decide +kernel
theorem dX7_kindOfRun_49 : decode cX7_kindOfRun 49 = .ok (.ifCond .eq 49, 3) := by decide +kernel
theorem dX7_kindOfRun_52 : decode cX7_kindOfRun 52 = .ok (.iload_n 1, 1) := by decide +kernel
theorem dX7_kindOfRun_53 : decode cX7_kindOfRun 53 = .ok (.iconst 1, 1) := by decide +kernel
theorem dX7_kindOfRun_54 : decode cX7_kindOfRun 54 = .ok (.if_icmp .eq 15, 3) := by decide +kernel
theorem dX7_kindOfRun_57 : decode cX7_kindOfRun 57 = .ok (.iload_n 1, 1) := by decide +kernel
theorem dX7_kindOfRun_58 : decode cX7_kindOfRun 58 = .ok (.iconst 2, 1) := by decide +kernel
theorem dX7_kindOfRun_59 : decode cX7_kindOfRun 59 = .ok (.if_icmp .ne 39, 3) := by decide +kernel
theorem dX7_kindOfRun_62 : decode cX7_kindOfRun 62 = .ok (.iload_n 3, 1) := by decide +kernel
theorem dX7_kindOfRun_63 : decode cX7_kindOfRun 63 = .ok (.invokestatic 50, 3) := by decide +kernel
theorem dX7_kindOfRun_66 : decode cX7_kindOfRun 66 = .ok (.ifCond .eq 32, 3) := by decide +kernel
theorem dX7_kindOfRun_69 : decode cX7_kindOfRun 69 = .ok (.aload_n 0, 1) := by decide +kernel
theorem dX7_kindOfRun_70 : decode cX7_kindOfRun 70 = .ok (.iload_n 1, 1) := by decide +kernel
theorem dX7_kindOfRun_71 : decode cX7_kindOfRun 71 = .ok (.iconst 1, 1) := by decide +kernel
theorem dX7_kindOfRun_72 : decode cX7_kindOfRun 72 = .ok (.if_icmp .ne 7, 3) := by decide +kernel
theorem dX7_kindOfRun_75 : decode cX7_kindOfRun 75 = .ok (.iload_n 2, 1) := by decide +kernel
theorem dX7_kindOfRun_76 : decode cX7_kindOfRun 76 = .ok (.goto 15, 3) := by decide +kernel
theorem dX7_kindOfRun_79 : decode cX7_kindOfRun 79 = .ok (.iload_n 2, 1) := by decide +kernel
theorem dX7_kindOfRun_80 : decode cX7_kindOfRun 80 = .ok (.sipush 256, 3) := by decide +kernel
theorem dX7_kindOfRun_83 : decode cX7_kindOfRun 83 = .ok (.iload_n 3, 1) := by decide +kernel
theorem dX7_kindOfRun_84 : decode cX7_kindOfRun 84 = .ok (.bipush 48, 2) := by decide +kernel
theorem dX7_kindOfRun_86 : decode cX7_kindOfRun 86 = .ok (.isub, 1) := by decide +kernel
theorem dX7_kindOfRun_87 : decode cX7_kindOfRun 87 = .ok (.iconst 1, 1) := by decide +kernel
theorem dX7_kindOfRun_88 : decode cX7_kindOfRun 88 = .ok (.iadd, 1) := by decide +kernel
theorem dX7_kindOfRun_89 : decode cX7_kindOfRun 89 = .ok (.imul, 1) := by decide +kernel
theorem dX7_kindOfRun_90 : decode cX7_kindOfRun 90 = .ok (.iadd, 1) := by decide +kernel
theorem dX7_kindOfRun_91 : decode cX7_kindOfRun 91 = .ok (.putfield 53, 3) := by decide +kernel
theorem dX7_kindOfRun_94 : decode cX7_kindOfRun 94 = .ok (.sipush 256, 3) := by decide +kernel
theorem dX7_kindOfRun_97 : decode cX7_kindOfRun 97 = .ok (.ireturn, 1) := by decide +kernel
theorem dX7_kindOfRun_98 : decode cX7_kindOfRun 98 = .ok (.aload_n 0, 1) := by decide +kernel
theorem dX7_kindOfRun_99 : decode cX7_kindOfRun 99 = .ok (.ldc 56, 2) := by decide +kernel
theorem dX7_kindOfRun_101 : decode cX7_kindOfRun 101 = .ok (.iload_n 1, 1) := by decide +kernel
theorem dX7_kindOfRun_102 : decode cX7_kindOfRun 102 = .ok (.invokevirtual 58, 3) := by decide +kernel
theorem dX7_kindOfRun_105 : decode cX7_kindOfRun 105 = .ok (.ifCond .eq 7, 3) := by decide +kernel
theorem dX7_kindOfRun_108 : decode cX7_kindOfRun 108 = .ok (.sipush 512, 3) := by decide +kernel
theorem dX7_kindOfRun_111 : decode cX7_kindOfRun 111 = .ok (.ireturn, 1) := by decide +kernel
theorem dX7_kindOfRun_112 : decode cX7_kindOfRun 112 = .ok (.aload_n 0, 1) := by decide +kernel
theorem dX7_kindOfRun_113 : decode cX7_kindOfRun 113 = .ok (.ldc 62, 2) := by decide +kernel
theorem dX7_kindOfRun_115 : decode cX7_kindOfRun 115 = .ok (.iload_n 1, 1) := by decide +kernel
theorem dX7_kindOfRun_116 : decode cX7_kindOfRun 116 = .ok (.invokevirtual 58, 3) := by decide +kernel
theorem dX7_kindOfRun_119 : decode cX7_kindOfRun 119 = .ok (.ifCond .eq 9, 3) := by decide +kernel
theorem dX7_kindOfRun_122 : decode cX7_kindOfRun 122 = .ok (.sipush 513, 3) := by decide +kernel
theorem dX7_kindOfRun_125 : decode cX7_kindOfRun 125 = .ok (.goto 6, 3) := by decide +kernel
theorem dX7_kindOfRun_128 : decode cX7_kindOfRun 128 = .ok (.sipush 515, 3) := by decide +kernel
theorem dX7_kindOfRun_131 : decode cX7_kindOfRun 131 = .ok (.ireturn, 1) := by decide +kernel
theorem dX7_spells_0 : decode cX7_spells 0 = .ok (.iload_n 2, 1) := by decide +kernel
theorem dX7_spells_1 : decode cX7_spells 1 = .ok (.aload_n 1, 1) := by decide +kernel
theorem dX7_spells_2 : decode cX7_spells 2 = .ok (.invokevirtual 64, 3) := by decide +kernel
theorem dX7_spells_5 : decode cX7_spells 5 = .ok (.if_icmp .eq 5, 3) := by decide +kernel
theorem dX7_spells_8 : decode cX7_spells 8 = .ok (.iconst 0, 1) := by decide +kernel
theorem dX7_spells_9 : decode cX7_spells 9 = .ok (.ireturn, 1) := by decide +kernel
theorem dX7_spells_10 : decode cX7_spells 10 = .ok (.iconst 0, 1) := by decide +kernel
theorem dX7_spells_11 : decode cX7_spells 11 = .ok (.istore_n 3, 1) := by decide +kernel
theorem dX7_spells_12 : decode cX7_spells 12 = .ok (.iload_n 3, 1) := by decide +kernel
theorem dX7_spells_13 : decode cX7_spells 13 = .ok (.aload_n 1, 1) := by decide +kernel
theorem dX7_spells_14 : decode cX7_spells 14 = .ok (.invokevirtual 64, 3) := by decide +kernel
theorem dX7_spells_17 : decode cX7_spells 17 = .ok (.if_icmp .ge 32, 3) := by decide +kernel
theorem dX7_spells_20 : decode cX7_spells 20 = .ok (.aload_n 0, 1) := by decide +kernel
theorem dX7_spells_21 : decode cX7_spells 21 = .ok (.getfield 9, 3) := by decide +kernel
theorem dX7_spells_24 : decode cX7_spells 24 = .ok (.aload_n 0, 1) := by decide +kernel

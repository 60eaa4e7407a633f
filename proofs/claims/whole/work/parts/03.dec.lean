theorem dX0_init_0 : decode cX0_init 0 = .ok (.aload_n 0, 1) := by decide +kernel
theorem dX0_init_1 : decode cX0_init 1 = .ok (.invokespecial 3, 3) := by decide +kernel
theorem dX0_init_4 : decode cX0_init 4 = .ok (.aload_n 0, 1) := by decide +kernel
theorem dX0_init_5 : decode cX0_init 5 = .ok (.bipush 6, 2) := by decide +kernel
theorem dX0_init_7 : decode cX0_init 7 = .ok (.newarray .int, 2) := by decide +kernel
theorem dX0_init_9 : decode cX0_init 9 = .ok (.putfield 9, 3) := by decide +kernel
theorem dX0_init_12 : decode cX0_init 12 = .ok (.aload_n 0, 1) := by decide +kernel
theorem dX0_init_13 : decode cX0_init 13 = .ok (.bipush 6, 2) := by decide +kernel
theorem dX0_init_15 : decode cX0_init 15 = .ok (.newarray .int, 2) := by decide +kernel
theorem dX0_init_17 : decode cX0_init 17 = .ok (.putfield 15, 3) := by decide +kernel
theorem dX0_init_20 : decode cX0_init 20 = .ok (.aload_n 0, 1) := by decide +kernel
theorem dX0_init_21 : decode cX0_init 21 = .ok (.bipush 10, 2) := by decide +kernel
theorem dX0_init_23 : decode cX0_init 23 = .ok (.newarray .int, 2) := by decide +kernel
theorem dX0_init_25 : decode cX0_init 25 = .ok (.putfield 18, 3) := by decide +kernel
theorem dX0_init_28 : decode cX0_init 28 = .ok (.aload_n 0, 1) := by decide +kernel
theorem dX0_init_29 : decode cX0_init 29 = .ok (.bipush 10, 2) := by decide +kernel
theorem dX0_init_31 : decode cX0_init 31 = .ok (.newarray .int, 2) := by decide +kernel
theorem dX0_init_33 : decode cX0_init 33 = .ok (.putfield 21, 3) := by decide +kernel
theorem dX0_init_36 : decode cX0_init 36 = .ok (.return_, 1) := by decide +kernel
theorem dX0_clear_0 : decode cX0_clear 0 = .ok (.aload_n 0, 1) := by decide +kernel
theorem dX0_clear_1 : decode cX0_clear 1 = .ok (.iconst 0, 1) := by decide +kernel
theorem dX0_clear_2 : decode cX0_clear 2 = .ok (.putfield 24, 3) := by decide +kernel
theorem dX0_clear_5 : decode cX0_clear 5 = .ok (.aload_n 0, 1) := by decide +kernel
theorem dX0_clear_6 : decode cX0_clear 6 = .ok (.iconst 0, 1) := by decide +kernel
theorem dX0_clear_7 : decode cX0_clear 7 = .ok (.putfield 28, 3) := by decide +kernel
theorem dX0_clear_10 : decode cX0_clear 10 = .ok (.aload_n 0, 1) := by decide +kernel
theorem dX0_clear_11 : decode cX0_clear 11 = .ok (.iconst 0, 1) := by decide +kernel
theorem dX0_clear_12 : decode cX0_clear 12 = .ok (.putfield 31, 3) := by decide +kernel
theorem dX0_clear_15 : decode cX0_clear 15 = .ok (.return_, 1) := by decide +kernel
theorem dX0_addWord_0 : decode cX0_addWord 0 = .ok (.aload_n 0, 1) := by decide +kernel
theorem dX0_addWord_1 : decode cX0_addWord 1 = .ok (.getfield 24, 3) := by decide +kernel
theorem dX0_addWord_4 : decode cX0_addWord 4 = .ok (.bipush 6, 2) := by decide +kernel
theorem dX0_addWord_6 : decode cX0_addWord 6 = .ok (.if_icmp .lt 5, 3) := by decide +kernel
theorem dX0_addWord_9 : decode cX0_addWord 9 = .ok (.iconst 4, 1) := by decide +kernel
theorem dX0_addWord_10 : decode cX0_addWord 10 = .ok (.ireturn, 1) := by decide +kernel
theorem dX0_addWord_11 : decode cX0_addWord 11 = .ok (.aload_n 0, 1) := by decide +kernel
theorem dX0_addWord_12 : decode cX0_addWord 12 = .ok (.dup, 1) := by decide +kernel
theorem dX0_addWord_13 : decode cX0_addWord 13 = .ok (.getfield 24, 3) := by decide +kernel
theorem dX0_addWord_16 : decode cX0_addWord 16 = .ok (.iconst 1, 1) := by decide +kernel
theorem dX0_addWord_17 : decode cX0_addWord 17 = .ok (.iadd, 1) := by decide +kernel
theorem dX0_addWord_18 : decode cX0_addWord 18 = .ok (.putfield 24, 3) := by decide +kernel
theorem dX0_addWord_21 : decode cX0_addWord 21 = .ok (.aload_n 0, 1) := by decide +kernel
theorem dX0_addWord_22 : decode cX0_addWord 22 = .ok (.aload_n 0, 1) := by decide +kernel
theorem dX0_addWord_23 : decode cX0_addWord 23 = .ok (.getfield 28, 3) := by decide +kernel
theorem dX0_addWord_26 : decode cX0_addWord 26 = .ok (.iconst 1, 1) := by decide +kernel
theorem dX0_addWord_27 : decode cX0_addWord 27 = .ok (.isub, 1) := by decide +kernel
theorem dX0_addWord_28 : decode cX0_addWord 28 = .ok (.invokevirtual 34, 3) := by decide +kernel
theorem dX0_addWord_31 : decode cX0_addWord 31 = .ok (.iload_n 1, 1) := by decide +kernel
theorem dX0_addWord_32 : decode cX0_addWord 32 = .ok (.if_icmp .eq 45, 3) := by decide +kernel
theorem dX0_addWord_35 : decode cX0_addWord 35 = .ok (.aload_n 0, 1) := by decide +kernel
theorem dX0_addWord_36 : decode cX0_addWord 36 = .ok (.getfield 28, 3) := by decide +kernel
theorem dX0_addWord_39 : decode cX0_addWord 39 = .ok (.bipush 6, 2) := by decide +kernel
theorem dX0_addWord_41 : decode cX0_addWord 41 = .ok (.invokestatic 38, 3) := by decide +kernel
theorem dX0_addWord_44 : decode cX0_addWord 44 = .ok (.ifCond .eq 33, 3) := by decide +kernel
theorem dX0_addWord_47 : decode cX0_addWord 47 = .ok (.aload_n 0, 1) := by decide +kernel
theorem dX0_addWord_48 : decode cX0_addWord 48 = .ok (.getfield 9, 3) := by decide +kernel
theorem dX0_addWord_51 : decode cX0_addWord 51 = .ok (.aload_n 0, 1) := by decide +kernel
theorem dX0_addWord_52 : decode cX0_addWord 52 = .ok (.getfield 28, 3) := by decide +kernel
theorem dX0_addWord_55 : decode cX0_addWord 55 = .ok (.iload_n 1, 1) := by decide +kernel
theorem dX0_addWord_56 : decode cX0_addWord 56 = .ok (.iastore, 1) := by decide +kernel
theorem dX0_addWord_57 : decode cX0_addWord 57 = .ok (.aload_n 0, 1) := by decide +kernel
theorem dX0_addWord_58 : decode cX0_addWord 58 = .ok (.getfield 15, 3) := by decide +kernel
theorem dX0_addWord_61 : decode cX0_addWord 61 = .ok (.aload_n 0, 1) := by decide +kernel
theorem dX0_addWord_62 : decode cX0_addWord 62 = .ok (.getfield 28, 3) := by decide +kernel
theorem dX0_addWord_65 : decode cX0_addWord 65 = .ok (.iconst 0, 1) := by decide +kernel
theorem dX0_addWord_66 : decode cX0_addWord 66 = .ok (.iastore, 1) := by decide +kernel
theorem dX0_addWord_67 : decode cX0_addWord 67 = .ok (.aload_n 0, 1) := by decide +kernel
theorem dX0_addWord_68 : decode cX0_addWord 68 = .ok (.dup, 1) := by decide +kernel
theorem dX0_addWord_69 : decode cX0_addWord 69 = .ok (.getfield 28, 3) := by decide +kernel
theorem dX0_addWord_72 : decode cX0_addWord 72 = .ok (.iconst 1, 1) := by decide +kernel
theorem dX0_addWord_73 : decode cX0_addWord 73 = .ok (.iadd, 1) := by decide +kernel
theorem dX0_addWord_74 : decode cX0_addWord 74 = .ok (.putfield 28, 3) := by decide +kernel
theorem dX0_addWord_77 : decode cX0_addWord 77 = .ok (.iconst 0, 1) := by decide +kernel
theorem dX0_addWord_78 : decode cX0_addWord 78 = .ok (.ireturn, 1) := by decide +kernel
theorem dX0_addName_0 : decode cX0_addName 0 = .ok (.aload_n 0, 1) := by decide +kernel
theorem dX0_addName_1 : decode cX0_addName 1 = .ok (.iload_n 1, 1) := by decide +kernel
theorem dX0_addName_2 : decode cX0_addName 2 = .ok (.invokevirtual 42, 3) := by decide +kernel
theorem dX0_addName_5 : decode cX0_addName 5 = .ok (.iconst (-1), 1) := by decide +kernel
theorem dX0_addName_6 : decode cX0_addName 6 = .ok (.if_icmp .eq 5, 3) := by decide +kernel
theorem dX0_addName_9 : decode cX0_addName 9 = .ok (.iconst 3, 1) := by decide +kernel
theorem dX0_addName_10 : decode cX0_addName 10 = .ok (.ireturn, 1) := by decide +kernel
theorem dX0_addName_11 : decode cX0_addName 11 = .ok (.aload_n 0, 1) := by decide +kernel
theorem dX0_addName_12 : decode cX0_addName 12 = .ok (.getfield 28, 3) := by decide +kernel
theorem dX0_addName_15 : decode cX0_addName 15 = .ok (.iconst 1, 1) := by decide +kernel
theorem dX0_addName_16 : decode cX0_addName 16 = .ok (.isub, 1) := by decide +kernel
theorem dX0_addName_17 : decode cX0_addName 17 = .ok (.istore_n 2, 1) := by decide +kernel
theorem dX0_addName_18 : decode cX0_addName 18 = .ok (.aload_n 0, 1) := by decide +kernel
theorem dX0_addName_19 : decode cX0_addName 19 = .ok (.getfield 31, 3) := by decide +kernel
theorem dX0_addName_22 : decode cX0_addName 22 = .ok (.bipush 10, 2) := by decide +kernel
theorem dX0_addName_24 : decode cX0_addName 24 = .ok (.invokestatic 38, 3) := by decide +kernel
theorem dX0_addName_27 : decode cX0_addName 27 = .ok (.ifCond .eq 12, 3) := by decide +kernel
theorem dX0_addName_30 : decode cX0_addName 30 = .ok (.iload_n 2, 1) := by decide +kernel
theorem dX0_addName_31 : decode cX0_addName 31 = .ok (.bipush 6, 2) := by decide +kernel
theorem dX0_addName_33 : decode cX0_addName 33 = .ok (.invokestatic 38, 3) := by decide +kernel
theorem dX0_addName_36 : decode cX0_addName 36 = .ok (.ifCond .ne 5, 3) := by decide +kernel
theorem dX0_addName_39 : decode cX0_addName 39 = .ok (.iconst 4, 1) := by decide +kernel
theorem dX0_addName_40 : decode cX0_addName 40 = .ok (.ireturn, 1) := by decide +kernel
theorem dX0_addName_41 : decode cX0_addName 41 = .ok (.aload_n 0, 1) := by decide +kernel
theorem dX0_addName_42 : decode cX0_addName 42 = .ok (.getfield 18, 3) := by decide +kernel
theorem dX0_addName_45 : decode cX0_addName 45 = .ok (.aload_n 0, 1) := by decide +kernel
theorem dX0_addName_46 : decode cX0_addName 46 = .ok (.getfield 31, 3) := by decide +kernel
theorem dX0_addName_49 : decode cX0_addName 49 = .ok (.iload_n 1, 1) := by decide +kernel
theorem dX0_addName_50 : decode cX0_addName 50 = .ok (.iastore, 1) := by decide +kernel
theorem dX0_addName_51 : decode cX0_addName 51 = .ok (.aload_n 0, 1) := by decide +kernel
theorem dX0_addName_52 : decode cX0_addName 52 = .ok (.getfield 21, 3) := by decide +kernel
theorem dX0_addName_55 : decode cX0_addName 55 = .ok (.aload_n 0, 1) := by decide +kernel
theorem dX0_addName_56 : decode cX0_addName 56 = .ok (.getfield 31, 3) := by decide +kernel
theorem dX0_addName_59 : decode cX0_addName 59 = .ok (.iload_n 2, 1) := by decide +kernel
theorem dX0_addName_60 : decode cX0_addName 60 = .ok (.iastore, 1) := by decide +kernel
theorem dX0_addName_61 : decode cX0_addName 61 = .ok (.aload_n 0, 1) := by decide +kernel
theorem dX0_addName_62 : decode cX0_addName 62 = .ok (.dup, 1) := by decide +kernel
theorem dX0_addName_63 : decode cX0_addName 63 = .ok (.getfield 31, 3) := by decide +kernel
theorem dX0_addName_66 : decode cX0_addName 66 = .ok (.iconst 1, 1) := by decide +kernel
theorem dX0_addName_67 : decode cX0_addName 67 = .ok (.iadd, 1) := by decide +kernel
theorem dX0_addName_68 : decode cX0_addName 68 = .ok (.putfield 31, 3) := by decide +kernel
theorem dX0_addName_71 : decode cX0_addName 71 = .ok (.aload_n 0, 1) := by decide +kernel
theorem dX0_addName_72 : decode cX0_addName 72 = .ok (.getfield 15, 3) := by decide +kernel
theorem dX0_addName_75 : decode cX0_addName 75 = .ok (.iload_n 2, 1) := by decide +kernel
theorem dX0_addName_76 : decode cX0_addName 76 = .ok (.dup2, 1) := by decide +kernel
theorem dX0_addName_77 : decode cX0_addName 77 = .ok (.iaload, 1) := by decide +kernel
theorem dX0_addName_78 : decode cX0_addName 78 = .ok (.iconst 1, 1) := by decide +kernel
theorem dX0_addName_79 : decode cX0_addName 79 = .ok (.iadd, 1) := by decide +kernel
theorem dX0_addName_80 : decode cX0_addName 80 = .ok (.iastore, 1) := by decide +kernel
theorem dX0_addName_81 : decode cX0_addName 81 = .ok (.iconst 0, 1) := by decide +kernel
theorem dX0_addName_82 : decode cX0_addName 82 = .ok (.ireturn, 1) := by decide +kernel
theorem dX0_find_0 : decode cX0_find 0 = .ok (.iconst 0, 1) := by decide +kernel
theorem dX0_find_1 : decode cX0_find 1 = .ok (.istore_n 2, 1) := by decide +kernel
theorem dX0_find_2 : decode cX0_find 2 = .ok (.iload_n 2, 1) := by decide +kernel
theorem dX0_find_3 : decode cX0_find 3 = .ok (.aload_n 0, 1) := by decide +kernel
theorem dX0_find_4 : decode cX0_find 4 = .ok (.getfield 31, 3) := by decide +kernel
theorem dX0_find_7 : decode cX0_find 7 = .ok (.if_icmp .ge 20, 3) := by decide +kernel
theorem dX0_find_10 : decode cX0_find 10 = .ok (.aload_n 0, 1) := by decide +kernel
theorem dX0_find_11 : decode cX0_find 11 = .ok (.iload_n 2, 1) := by decide +kernel
theorem dX0_find_12 : decode cX0_find 12 = .ok (.invokevirtual 45, 3) := by decide +kernel
theorem dX0_find_15 : decode cX0_find 15 = .ok (.iload_n 1, 1) := by decide +kernel
theorem dX0_find_16 : decode cX0_find 16 = .ok (.if_icmp .ne 5, 3) := by decide +kernel
theorem dX0_find_19 : decode cX0_find 19 = .ok (.iload_n 2, 1) := by decide +kernel
theorem dX0_find_20 : decode cX0_find 20 = .ok (.ireturn, 1) := by decide +kernel
theorem dX0_find_21 : decode cX0_find 21 = .ok (.iinc 2 1, 3) := by decide +kernel
theorem dX0_find_24 : decode cX0_find 24 = .ok (.goto (-22), 3) := by decide +kernel
theorem dX0_find_27 : decode cX0_find 27 = .ok (.iconst (-1), 1) := by decide +kernel
theorem dX0_find_28 : decode cX0_find 28 = .ok (.ireturn, 1) := by decide +kernel
theorem dX0_ownerOf_0 : decode cX0_ownerOf 0 = .ok (.iload_n 1, 1) := by decide +kernel
theorem dX0_ownerOf_1 : decode cX0_ownerOf 1 = .ok (.aload_n 0, 1) := by decide +kernel
theorem dX0_ownerOf_2 : decode cX0_ownerOf 2 = .ok (.getfield 28, 3) := by decide +kernel
theorem dX0_ownerOf_5 : decode cX0_ownerOf 5 = .ok (.invokestatic 38, 3) := by decide +kernel
theorem dX0_ownerOf_8 : decode cX0_ownerOf 8 = .ok (.ifCond .eq 18, 3) := by decide +kernel
theorem dX0_ownerOf_11 : decode cX0_ownerOf 11 = .ok (.iload_n 1, 1) := by decide +kernel
theorem dX0_ownerOf_12 : decode cX0_ownerOf 12 = .ok (.bipush 6, 2) := by decide +kernel
theorem dX0_ownerOf_14 : decode cX0_ownerOf 14 = .ok (.if_icmp .ge 12, 3) := by decide +kernel
theorem dX0_ownerOf_17 : decode cX0_ownerOf 17 = .ok (.aload_n 0, 1) := by decide +kernel
theorem dX0_ownerOf_18 : decode cX0_ownerOf 18 = .ok (.getfield 9, 3) := by decide +kernel
theorem dX0_ownerOf_21 : decode cX0_ownerOf 21 = .ok (.iload_n 1, 1) := by decide +kernel
theorem dX0_ownerOf_22 : decode cX0_ownerOf 22 = .ok (.iaload, 1) := by decide +kernel
theorem dX0_ownerOf_23 : decode cX0_ownerOf 23 = .ok (.goto 4, 3) := by decide +kernel
theorem dX0_ownerOf_26 : decode cX0_ownerOf 26 = .ok (.iconst (-1), 1) := by decide +kernel
theorem dX0_ownerOf_27 : decode cX0_ownerOf 27 = .ok (.ireturn, 1) := by decide +kernel
theorem dX0_sizeOf_0 : decode cX0_sizeOf 0 = .ok (.iload_n 1, 1) := by decide +kernel
theorem dX0_sizeOf_1 : decode cX0_sizeOf 1 = .ok (.aload_n 0, 1) := by decide +kernel
theorem dX0_sizeOf_2 : decode cX0_sizeOf 2 = .ok (.getfield 28, 3) := by decide +kernel
theorem dX0_sizeOf_5 : decode cX0_sizeOf 5 = .ok (.invokestatic 38, 3) := by decide +kernel
theorem dX0_sizeOf_8 : decode cX0_sizeOf 8 = .ok (.ifCond .eq 18, 3) := by decide +kernel
theorem dX0_sizeOf_11 : decode cX0_sizeOf 11 = .ok (.iload_n 1, 1) := by decide +kernel
theorem dX0_sizeOf_12 : decode cX0_sizeOf 12 = .ok (.bipush 6, 2) := by decide +kernel
theorem dX0_sizeOf_14 : decode cX0_sizeOf 14 = .ok (.if_icmp .ge 12, 3) := by decide +kernel
theorem dX0_sizeOf_17 : decode cX0_sizeOf 17 = .ok (.aload_n 0, 1) := by decide +kernel
theorem dX0_sizeOf_18 : decode cX0_sizeOf 18 = .ok (.getfield 15, 3) := by decide +kernel
theorem dX0_sizeOf_21 : decode cX0_sizeOf 21 = .ok (.iload_n 1, 1) := by decide +kernel
theorem dX0_sizeOf_22 : decode cX0_sizeOf 22 = .ok (.iaload, 1) := by decide +kernel
theorem dX0_sizeOf_23 : decode cX0_sizeOf 23 = .ok (.goto 4, 3) := by decide +kernel
theorem dX0_sizeOf_26 : decode cX0_sizeOf 26 = .ok (.iconst (-1), 1) := by decide +kernel
theorem dX0_sizeOf_27 : decode cX0_sizeOf 27 = .ok (.ireturn, 1) := by decide +kernel
theorem dX0_codeOf_0 : decode cX0_codeOf 0 = .ok (.iload_n 1, 1) := by decide +kernel
theorem dX0_codeOf_1 : decode cX0_codeOf 1 = .ok (.aload_n 0, 1) := by decide +kernel
theorem dX0_codeOf_2 : decode cX0_codeOf 2 = .ok (.getfield 31, 3) := by decide +kernel
theorem dX0_codeOf_5 : decode cX0_codeOf 5 = .ok (.invokestatic 38, 3) := by decide +kernel
theorem dX0_codeOf_8 : decode cX0_codeOf 8 = .ok (.ifCond .eq 18, 3) := by decide +kernel
theorem dX0_codeOf_11 : decode cX0_codeOf 11 = .ok (.iload_n 1, 1) := by decide +kernel
theorem dX0_codeOf_12 : decode cX0_codeOf 12 = .ok (.bipush 10, 2) := by decide +kernel
theorem dX0_codeOf_14 : decode cX0_codeOf 14 = .ok (.if_icmp .ge 12, 3) := by decide +kernel
theorem dX0_codeOf_17 : decode cX0_codeOf 17 = .ok (.aload_n 0, 1) := by decide +kernel
theorem dX0_codeOf_18 : decode cX0_codeOf 18 = .ok (.getfield 18, 3) := by decide +kernel
theorem dX0_codeOf_21 : decode cX0_codeOf 21 = .ok (.iload_n 1, 1) := by decide +kernel
theorem dX0_codeOf_22 : decode cX0_codeOf 22 = .ok (.iaload, 1) := by decide +kernel
theorem dX0_codeOf_23 : decode cX0_codeOf 23 = .ok (.goto 4, 3) := by decide +kernel
theorem dX0_codeOf_26 : decode cX0_codeOf 26 = .ok (.iconst (-1), 1) := by decide +kernel
theorem dX0_codeOf_27 : decode cX0_codeOf 27 = .ok (.ireturn, 1) := by decide +kernel
theorem dX0_blockOf_0 : decode cX0_blockOf 0 = .ok (.iload_n 1, 1) := by decide +kernel
theorem dX0_blockOf_1 : decode cX0_blockOf 1 = .ok (.aload_n 0, 1) := by decide +kernel
theorem dX0_blockOf_2 : decode cX0_blockOf 2 = .ok (.getfield 31, 3) := by decide +kernel
theorem dX0_blockOf_5 : decode cX0_blockOf 5 = .ok (.invokestatic 38, 3) := by decide +kernel
theorem dX0_blockOf_8 : decode cX0_blockOf 8 = .ok (.ifCond .eq 18, 3) := by decide +kernel
theorem dX0_blockOf_11 : decode cX0_blockOf 11 = .ok (.iload_n 1, 1) := by decide +kernel
theorem dX0_blockOf_12 : decode cX0_blockOf 12 = .ok (.bipush 10, 2) := by decide +kernel
theorem dX0_blockOf_14 : decode cX0_blockOf 14 = .ok (.if_icmp .ge 12, 3) := by decide +kernel
theorem dX0_blockOf_17 : decode cX0_blockOf 17 = .ok (.aload_n 0, 1) := by decide +kernel
theorem dX0_blockOf_18 : decode cX0_blockOf 18 = .ok (.getfield 21, 3) := by decide +kernel
theorem dX0_blockOf_21 : decode cX0_blockOf 21 = .ok (.iload_n 1, 1) := by decide +kernel
theorem dX0_blockOf_22 : decode cX0_blockOf 22 = .ok (.iaload, 1) := by decide +kernel
theorem dX0_blockOf_23 : decode cX0_blockOf 23 = .ok (.goto 4, 3) := by decide +kernel
theorem dX0_blockOf_26 : decode cX0_blockOf 26 = .ok (.iconst (-1), 1) := by decide +kernel
theorem dX0_blockOf_27 : decode cX0_blockOf 27 = .ok (.ireturn, 1) := by decide +kernel
theorem dX1_init_0 : decode cX1_init 0 = .ok (.aload_n 0, 1) := by decide +kernel
theorem dX1_init_1 : decode cX1_init 1 = .ok (.invokespecial 3, 3) := by decide +kernel
theorem dX1_init_4 : decode cX1_init 4 = .ok (.aload_n 0, 1) := by decide +kernel
theorem dX1_init_5 : decode cX1_init 5 = .ok (.sipush 160, 3) := by decide +kernel
theorem dX1_init_8 : decode cX1_init 8 = .ok (.newarray .int, 2) := by decide +kernel
theorem dX1_init_10 : decode cX1_init 10 = .ok (.putfield 9, 3) := by decide +kernel
theorem dX1_init_13 : decode cX1_init 13 = .ok (.aload_n 0, 1) := by decide +kernel
theorem dX1_init_14 : decode cX1_init 14 = .ok (.sipush 160, 3) := by decide +kernel
theorem dX1_init_17 : decode cX1_init 17 = .ok (.newarray .int, 2) := by decide +kernel
theorem dX1_init_19 : decode cX1_init 19 = .ok (.putfield 15, 3) := by decide +kernel
theorem dX1_init_22 : decode cX1_init 22 = .ok (.aload_n 0, 1) := by decide +kernel
theorem dX1_init_23 : decode cX1_init 23 = .ok (.sipush 160, 3) := by decide +kernel
theorem dX1_init_26 : decode cX1_init 26 = .ok (.newarray .int, 2) := by decide +kernel
theorem dX1_init_28 : decode cX1_init 28 = .ok (.putfield 18, 3) := by decide +kernel
theorem dX1_init_31 : decode cX1_init 31 = .ok (.aload_n 0, 1) := by decide +kernel
theorem dX1_init_32 : decode cX1_init 32 = .ok (.sipush 160, 3) := by decide +kernel
theorem dX1_init_35 : decode cX1_init 35 = .ok (.newarray .int, 2) := by decide +kernel
theorem dX1_init_37 : decode cX1_init 37 = .ok (.putfield 21, 3) := by decide +kernel
theorem dX1_init_40 : decode cX1_init 40 = .ok (.aload_n 0, 1) := by decide +kernel
theorem dX1_init_41 : decode cX1_init 41 = .ok (.sipush 160, 3) := by decide +kernel
theorem dX1_init_44 : decode cX1_init 44 = .ok (.newarray .int, 2) := by decide +kernel
theorem dX1_init_46 : decode cX1_init 46 = .ok (.putfield 24, 3) := by decide +kernel
theorem dX1_init_49 : decode cX1_init 49 = .ok (.aload_n 0, 1) := by decide +kernel
theorem dX1_init_50 : decode cX1_init 50 = .ok (.aload_n 1, 1) := by decide +kernel
theorem dX1_init_51 : decode cX1_init 51 = .ok (.putfield 27, 3) := by decide +kernel
theorem dX1_init_54 : decode cX1_init 54 = .ok (.return_, 1) := by decide +kernel
theorem dX1_begin_0 : decode cX1_begin 0 = .ok (.aload_n 0, 1) := by decide +kernel
theorem dX1_begin_1 : decode cX1_begin 1 = .ok (.aload_n 1, 1) := by decide +kernel
theorem dX1_begin_2 : decode cX1_begin 2 = .ok (.putfield 27, 3) := by decide +kernel
theorem dX1_begin_5 : decode cX1_begin 5 = .ok (.aload_n 0, 1) := by decide +kernel
theorem dX1_begin_6 : decode cX1_begin 6 = .ok (.iconst 0, 1) := by decide +kernel
theorem dX1_begin_7 : decode cX1_begin 7 = .ok (.putfield 31, 3) := by decide +kernel
theorem dX1_begin_10 : decode cX1_begin 10 = .ok (.aload_n 0, 1) := by decide +kernel
theorem dX1_begin_11 : decode cX1_begin 11 = .ok (.iconst 0, 1) := by decide +kernel
theorem dX1_begin_12 : decode cX1_begin 12 = .ok (.putfield 35, 3) := by decide +kernel
theorem dX1_begin_15 : decode cX1_begin 15 = .ok (.aload_n 0, 1) := by decide +kernel
theorem dX1_begin_16 : decode cX1_begin 16 = .ok (.iconst 0, 1) := by decide +kernel
theorem dX1_begin_17 : decode cX1_begin 17 = .ok (.putfield 38, 3) := by decide +kernel
theorem dX1_begin_20 : decode cX1_begin 20 = .ok (.aload_n 0, 1) := by decide +kernel
theorem dX1_begin_21 : decode cX1_begin 21 = .ok (.iconst 0, 1) := by decide +kernel
theorem dX1_begin_22 : decode cX1_begin 22 = .ok (.putfield 41, 3) := by decide +kernel
theorem dX1_begin_25 : decode cX1_begin 25 = .ok (.return_, 1) := by decide +kernel
theorem dX1_openSign_0 : decode cX1_openSign 0 = .ok (.aload_n 0, 1) := by decide +kernel
theorem dX1_openSign_1 : decode cX1_openSign 1 = .ok (.getfield 38, 3) := by decide +kernel
theorem dX1_openSign_4 : decode cX1_openSign 4 = .ok (.bipush 20, 2) := by decide +kernel
theorem dX1_openSign_6 : decode cX1_openSign 6 = .ok (.if_icmp .lt 5, 3) := by decide +kernel
theorem dX1_openSign_9 : decode cX1_openSign 9 = .ok (.iconst 0, 1) := by decide +kernel
theorem dX1_openSign_10 : decode cX1_openSign 10 = .ok (.ireturn, 1) := by decide +kernel
theorem dX1_openSign_11 : decode cX1_openSign 11 = .ok (.aload_n 0, 1) := by decide +kernel
theorem dX1_openSign_12 : decode cX1_openSign 12 = .ok (.dup, 1) := by decide +kernel
theorem dX1_openSign_13 : decode cX1_openSign 13 = .ok (.getfield 38, 3) := by decide +kernel
theorem dX1_openSign_16 : decode cX1_openSign 16 = .ok (.iconst 1, 1) := by decide +kernel
theorem dX1_openSign_17 : decode cX1_openSign 17 = .ok (.iadd, 1) := by decide +kernel
theorem dX1_openSign_18 : decode cX1_openSign 18 = .ok (.putfield 38, 3) := by decide +kernel
theorem dX1_openSign_21 : decode cX1_openSign 21 = .ok (.iload_n 1, 1) := by decide +kernel
theorem dX1_openSign_22 : decode cX1_openSign 22 = .ok (.bipush 40, 2) := by decide +kernel
theorem dX1_openSign_24 : decode cX1_openSign 24 = .ok (.if_icmp .ne 22, 3) := by decide +kernel
theorem dX1_openSign_27 : decode cX1_openSign 27 = .ok (.aload_n 0, 1) := by decide +kernel
theorem dX1_openSign_28 : decode cX1_openSign 28 = .ok (.dup, 1) := by decide +kernel
theorem dX1_openSign_29 : decode cX1_openSign 29 = .ok (.getfield 41, 3) := by decide +kernel
theorem dX1_openSign_32 : decode cX1_openSign 32 = .ok (.iconst 1, 1) := by decide +kernel
theorem dX1_openSign_33 : decode cX1_openSign 33 = .ok (.iadd, 1) := by decide +kernel
theorem dX1_openSign_34 : decode cX1_openSign 34 = .ok (.putfield 41, 3) := by decide +kernel
theorem dX1_openSign_37 : decode cX1_openSign 37 = .ok (.aload_n 0, 1) := by decide +kernel
theorem dX1_openSign_38 : decode cX1_openSign 38 = .ok (.iload_n 1, 1) := by decide +kernel
theorem dX1_openSign_39 : decode cX1_openSign 39 = .ok (.iconst (-1), 1) := by decide +kernel
theorem dX1_openSign_40 : decode cX1_openSign 40 = .ok (.invokevirtual 44, 3) := by decide +kernel
theorem dX1_openSign_43 : decode cX1_openSign 43 = .ok (.goto 16, 3) := by decide +kernel
theorem dX1_openSign_46 : decode cX1_openSign 46 = .ok (.aload_n 0, 1) := by decide +kernel
theorem dX1_openSign_47 : decode cX1_openSign 47 = .ok (.iload_n 1, 1) := by decide +kernel
theorem dX1_openSign_48 : decode cX1_openSign 48 = .ok (.aload_n 0, 1) := by decide +kernel
theorem dX1_openSign_49 : decode cX1_openSign 49 = .ok (.getfield 27, 3) := by decide +kernel
theorem dX1_openSign_52 : decode cX1_openSign 52 = .ok (.iload_n 1, 1) := by decide +kernel
theorem dX1_openSign_53 : decode cX1_openSign 53 = .ok (.invokevirtual 48, 3) := by decide +kernel
theorem dX1_openSign_56 : decode cX1_openSign 56 = .ok (.invokevirtual 44, 3) := by decide +kernel
theorem dX1_openSign_59 : decode cX1_openSign 59 = .ok (.iconst 1, 1) := by decide +kernel
theorem dX1_openSign_60 : decode cX1_openSign 60 = .ok (.ireturn, 1) := by decide +kernel
theorem dX1_addOperand_0 : decode cX1_addOperand 0 = .ok (.aload_n 0, 1) := by decide +kernel
theorem dX1_addOperand_1 : decode cX1_addOperand 1 = .ok (.getfield 27, 3) := by decide +kernel
theorem dX1_addOperand_4 : decode cX1_addOperand 4 = .ok (.iload_n 1, 1) := by decide +kernel
theorem dX1_addOperand_5 : decode cX1_addOperand 5 = .ok (.invokevirtual 48, 3) := by decide +kernel
theorem dX1_addOperand_8 : decode cX1_addOperand 8 = .ok (.istore_n 2, 1) := by decide +kernel
theorem dX1_addOperand_9 : decode cX1_addOperand 9 = .ok (.aload_n 0, 1) := by decide +kernel
theorem dX1_addOperand_10 : decode cX1_addOperand 10 = .ok (.getfield 27, 3) := by decide +kernel
theorem dX1_addOperand_13 : decode cX1_addOperand 13 = .ok (.iload_n 1, 1) := by decide +kernel
theorem dX1_addOperand_14 : decode cX1_addOperand 14 = .ok (.invokevirtual 54, 3) := by decide +kernel
theorem dX1_addOperand_17 : decode cX1_addOperand 17 = .ok (.aload_n 0, 1) := by decide +kernel
theorem dX1_addOperand_18 : decode cX1_addOperand 18 = .ok (.getfield 35, 3) := by decide +kernel
theorem dX1_addOperand_21 : decode cX1_addOperand 21 = .ok (.sipush 160, 3) := by decide +kernel
theorem dX1_addOperand_24 : decode cX1_addOperand 24 = .ok (.invokestatic 58, 3) := by decide +kernel
theorem dX1_addOperand_27 : decode cX1_addOperand 27 = .ok (.ifCond .eq 44, 3) := by decide +kernel
theorem dX1_addOperand_30 : decode cX1_addOperand 30 = .ok (.aload_n 0, 1) := by decide +kernel
theorem dX1_addOperand_31 : decode cX1_addOperand 31 = .ok (.getfield 18, 3) := by decide +kernel
theorem dX1_addOperand_34 : decode cX1_addOperand 34 = .ok (.aload_n 0, 1) := by decide +kernel
theorem dX1_addOperand_35 : decode cX1_addOperand 35 = .ok (.getfield 35, 3) := by decide +kernel
theorem dX1_addOperand_38 : decode cX1_addOperand 38 = .ok (.iload_n 2, 1) := by decide +kernel
theorem dX1_addOperand_39 : decode cX1_addOperand 39 = .ok (.iastore, 1) := by decide +kernel
theorem dX1_addOperand_40 : decode cX1_addOperand 40 = .ok (.aload_n 0, 1) := by decide +kernel
theorem dX1_addOperand_41 : decode cX1_addOperand 41 = .ok (.getfield 21, 3) := by decide +kernel
theorem dX1_addOperand_44 : decode cX1_addOperand 44 = .ok (.aload_n 0, 1) := by decide +kernel
theorem dX1_addOperand_45 : decode cX1_addOperand 45 = .ok (.getfield 35, 3) := by decide +kernel
theorem dX1_addOperand_48 : decode cX1_addOperand 48 = .ok (.iload_n 2, 1) := by decide +kernel
theorem dX1_addOperand_49 : decode cX1_addOperand 49 = .ok (.iastore, 1) := by decide +kernel
theorem dX1_addOperand_50 : decode cX1_addOperand 50 = .ok (.aload_n 0, 1) := by decide +kernel
theorem dX1_addOperand_51 : decode cX1_addOperand 51 = .ok (.getfield 24, 3) := by decide +kernel
theorem dX1_addOperand_54 : decode cX1_addOperand 54 = .ok (.aload_n 0, 1) := by decide +kernel
theorem dX1_addOperand_55 : decode cX1_addOperand 55 = .ok (.getfield 35, 3) := by decide +kernel
theorem dX1_addOperand_58 : decode cX1_addOperand 58 = .ok (.bipush 6, 2) := by decide +kernel
theorem dX1_addOperand_60 : decode cX1_addOperand 60 = .ok (.iastore, 1) := by decide +kernel
theorem dX1_addOperand_61 : decode cX1_addOperand 61 = .ok (.aload_n 0, 1) := by decide +kernel
theorem dX1_addOperand_62 : decode cX1_addOperand 62 = .ok (.dup, 1) := by decide +kernel
theorem dX1_addOperand_63 : decode cX1_addOperand 63 = .ok (.getfield 35, 3) := by decide +kernel
theorem dX1_addOperand_66 : decode cX1_addOperand 66 = .ok (.iconst 1, 1) := by decide +kernel
theorem dX1_addOperand_67 : decode cX1_addOperand 67 = .ok (.iadd, 1) := by decide +kernel
theorem dX1_addOperand_68 : decode cX1_addOperand 68 = .ok (.putfield 35, 3) := by decide +kernel
theorem dX1_addOperand_71 : decode cX1_addOperand 71 = .ok (.aload_n 0, 1) := by decide +kernel
theorem dX1_addOperand_72 : decode cX1_addOperand 72 = .ok (.bipush 6, 2) := by decide +kernel
theorem dX1_addOperand_74 : decode cX1_addOperand 74 = .ok (.invokevirtual 62, 3) := by decide +kernel
theorem dX1_addOperand_77 : decode cX1_addOperand 77 = .ok (.return_, 1) := by decide +kernel
theorem dX1_addOperator_0 : decode cX1_addOperator 0 = .ok (.aload_n 0, 1) := by decide +kernel
theorem dX1_addOperator_1 : decode cX1_addOperator 1 = .ok (.iload_n 1, 1) := by decide +kernel
theorem dX1_addOperator_2 : decode cX1_addOperator 2 = .ok (.bipush 62, 2) := by decide +kernel
theorem dX1_addOperator_4 : decode cX1_addOperator 4 = .ok (.if_icmp .ne 7, 3) := by decide +kernel
theorem dX1_addOperator_7 : decode cX1_addOperator 7 = .ok (.iconst 3, 1) := by decide +kernel
theorem dX1_addOperator_8 : decode cX1_addOperator 8 = .ok (.goto 7, 3) := by decide +kernel
theorem dX1_addOperator_11 : decode cX1_addOperator 11 = .ok (.iload_n 1, 1) := by decide +kernel
theorem dX1_addOperator_12 : decode cX1_addOperator 12 = .ok (.invokestatic 65, 3) := by decide +kernel
theorem dX1_addOperator_15 : decode cX1_addOperator 15 = .ok (.invokevirtual 62, 3) := by decide +kernel
theorem dX1_addOperator_18 : decode cX1_addOperator 18 = .ok (.aload_n 0, 1) := by decide +kernel
theorem dX1_addOperator_19 : decode cX1_addOperator 19 = .ok (.iload_n 1, 1) := by decide +kernel
theorem dX1_addOperator_20 : decode cX1_addOperator 20 = .ok (.aload_n 0, 1) := by decide +kernel
theorem dX1_addOperator_21 : decode cX1_addOperator 21 = .ok (.getfield 27, 3) := by decide +kernel
theorem dX1_addOperator_24 : decode cX1_addOperator 24 = .ok (.iload_n 1, 1) := by decide +kernel
theorem dX1_addOperator_25 : decode cX1_addOperator 25 = .ok (.invokevirtual 48, 3) := by decide +kernel
theorem dX1_addOperator_28 : decode cX1_addOperator 28 = .ok (.invokevirtual 44, 3) := by decide +kernel
theorem dX1_addOperator_31 : decode cX1_addOperator 31 = .ok (.return_, 1) := by decide +kernel
theorem dX1_closeParen_0 : decode cX1_closeParen 0 = .ok (.aload_n 0, 1) := by decide +kernel
theorem dX1_closeParen_1 : decode cX1_closeParen 1 = .ok (.getfield 41, 3) := by decide +kernel
theorem dX1_closeParen_4 : decode cX1_closeParen 4 = .ok (.ifCond .ne 5, 3) := by decide +kernel
theorem dX1_closeParen_7 : decode cX1_closeParen 7 = .ok (.iconst 0, 1) := by decide +kernel
theorem dX1_closeParen_8 : decode cX1_closeParen 8 = .ok (.ireturn, 1) := by decide +kernel
theorem dX1_closeParen_9 : decode cX1_closeParen 9 = .ok (.aload_n 0, 1) := by decide +kernel
theorem dX1_closeParen_10 : decode cX1_closeParen 10 = .ok (.iconst 1, 1) := by decide +kernel
theorem dX1_closeParen_11 : decode cX1_closeParen 11 = .ok (.invokevirtual 62, 3) := by decide +kernel
theorem dX1_closeParen_14 : decode cX1_closeParen 14 = .ok (.aload_n 0, 1) := by decide +kernel
theorem dX1_closeParen_15 : decode cX1_closeParen 15 = .ok (.dup, 1) := by decide +kernel
theorem dX1_closeParen_16 : decode cX1_closeParen 16 = .ok (.getfield 31, 3) := by decide +kernel
theorem dX1_closeParen_19 : decode cX1_closeParen 19 = .ok (.iconst 1, 1) := by decide +kernel
theorem dX1_closeParen_20 : decode cX1_closeParen 20 = .ok (.isub, 1) := by decide +kernel
theorem dX1_closeParen_21 : decode cX1_closeParen 21 = .ok (.putfield 31, 3) := by decide +kernel
theorem dX1_closeParen_24 : decode cX1_closeParen 24 = .ok (.aload_n 0, 1) := by decide +kernel
theorem dX1_closeParen_25 : decode cX1_closeParen 25 = .ok (.dup, 1) := by decide +kernel
theorem dX1_closeParen_26 : decode cX1_closeParen 26 = .ok (.getfield 41, 3) := by decide +kernel
theorem dX1_closeParen_29 : decode cX1_closeParen 29 = .ok (.iconst 1, 1) := by decide +kernel
theorem dX1_closeParen_30 : decode cX1_closeParen 30 = .ok (.isub, 1) := by decide +kernel
theorem dX1_closeParen_31 : decode cX1_closeParen 31 = .ok (.putfield 41, 3) := by decide +kernel
theorem dX1_closeParen_34 : decode cX1_closeParen 34 = .ok (.aload_n 0, 1) := by decide +kernel
theorem dX1_closeParen_35 : decode cX1_closeParen 35 = .ok (.dup, 1) := by decide +kernel
theorem dX1_closeParen_36 : decode cX1_closeParen 36 = .ok (.getfield 38, 3) := by decide +kernel
theorem dX1_closeParen_39 : decode cX1_closeParen 39 = .ok (.iconst 1, 1) := by decide +kernel
theorem dX1_closeParen_40 : decode cX1_closeParen 40 = .ok (.isub, 1) := by decide +kernel
theorem dX1_closeParen_41 : decode cX1_closeParen 41 = .ok (.putfield 38, 3) := by decide +kernel
theorem dX1_closeParen_44 : decode cX1_closeParen 44 = .ok (.aload_n 0, 1) := by decide +kernel
theorem dX1_closeParen_45 : decode cX1_closeParen 45 = .ok (.bipush 6, 2) := by decide +kernel
theorem dX1_closeParen_47 : decode cX1_closeParen 47 = .ok (.invokevirtual 62, 3) := by decide +kernel
theorem dX1_closeParen_50 : decode cX1_closeParen 50 = .ok (.iconst 1, 1) := by decide +kernel
theorem dX1_closeParen_51 : decode cX1_closeParen 51 = .ok (.ireturn, 1) := by decide +kernel
theorem dX1_finish_0 : decode cX1_finish 0 = .ok (.aload_n 0, 1) := by decide +kernel
theorem dX1_finish_1 : decode cX1_finish 1 = .ok (.getfield 41, 3) := by decide +kernel
theorem dX1_finish_4 : decode cX1_finish 4 = .ok (.ifCond .eq 5, 3) := by decide +kernel
theorem dX1_finish_7 : decode cX1_finish 7 = .ok (.iconst 0, 1) := by decide +kernel
theorem dX1_finish_8 : decode cX1_finish 8 = .ok (.ireturn, 1) := by decide +kernel
theorem dX1_finish_9 : decode cX1_finish 9 = .ok (.aload_n 0, 1) := by decide +kernel
theorem dX1_finish_10 : decode cX1_finish 10 = .ok (.iconst 1, 1) := by decide +kernel
theorem dX1_finish_11 : decode cX1_finish 11 = .ok (.invokevirtual 62, 3) := by decide +kernel
theorem dX1_finish_14 : decode cX1_finish 14 = .ok (.iconst 1, 1) := by decide +kernel
theorem dX1_finish_15 : decode cX1_finish 15 = .ok (.ireturn, 1) := by decide +kernel
theorem dX1_pushOperator_0 : decode cX1_pushOperator 0 = .ok (.aload_n 0, 1) := by decide +kernel
theorem dX1_pushOperator_1 : decode cX1_pushOperator 1 = .ok (.getfield 31, 3) := by decide +kernel
theorem dX1_pushOperator_4 : decode cX1_pushOperator 4 = .ok (.sipush 160, 3) := by decide +kernel
theorem dX1_pushOperator_7 : decode cX1_pushOperator 7 = .ok (.invokestatic 58, 3) := by decide +kernel
theorem dX1_pushOperator_10 : decode cX1_pushOperator 10 = .ok (.ifCond .eq 33, 3) := by decide +kernel
theorem dX1_pushOperator_13 : decode cX1_pushOperator 13 = .ok (.aload_n 0, 1) := by decide +kernel
theorem dX1_pushOperator_14 : decode cX1_pushOperator 14 = .ok (.getfield 9, 3) := by decide +kernel
theorem dX1_pushOperator_17 : decode cX1_pushOperator 17 = .ok (.aload_n 0, 1) := by decide +kernel
theorem dX1_pushOperator_18 : decode cX1_pushOperator 18 = .ok (.getfield 31, 3) := by decide +kernel
theorem dX1_pushOperator_21 : decode cX1_pushOperator 21 = .ok (.iload_n 1, 1) := by decide +kernel
theorem dX1_pushOperator_22 : decode cX1_pushOperator 22 = .ok (.iastore, 1) := by decide +kernel
theorem dX1_pushOperator_23 : decode cX1_pushOperator 23 = .ok (.aload_n 0, 1) := by decide +kernel
theorem dX1_pushOperator_24 : decode cX1_pushOperator 24 = .ok (.getfield 15, 3) := by decide +kernel
theorem dX1_pushOperator_27 : decode cX1_pushOperator 27 = .ok (.aload_n 0, 1) := by decide +kernel
theorem dX1_pushOperator_28 : decode cX1_pushOperator 28 = .ok (.getfield 31, 3) := by decide +kernel
theorem dX1_pushOperator_31 : decode cX1_pushOperator 31 = .ok (.iload_n 2, 1) := by decide +kernel
theorem dX1_pushOperator_32 : decode cX1_pushOperator 32 = .ok (.iastore, 1) := by decide +kernel
theorem dX1_pushOperator_33 : decode cX1_pushOperator 33 = .ok (.aload_n 0, 1) := by decide +kernel
theorem dX1_pushOperator_34 : decode cX1_pushOperator 34 = .ok (.dup, 1) := by decide +kernel
theorem dX1_pushOperator_35 : decode cX1_pushOperator 35 = .ok (.getfield 31, 3) := by decide +kernel
theorem dX1_pushOperator_38 : decode cX1_pushOperator 38 = .ok (.iconst 1, 1) := by decide +kernel
theorem dX1_pushOperator_39 : decode cX1_pushOperator 39 = .ok (.iadd, 1) := by decide +kernel
theorem dX1_pushOperator_40 : decode cX1_pushOperator 40 = .ok (.putfield 31, 3) := by decide +kernel
theorem dX1_pushOperator_43 : decode cX1_pushOperator 43 = .ok (.return_, 1) := by decide +kernel
theorem dX1_applyDownTo_0 : decode cX1_applyDownTo 0 = .ok (.aload_n 0, 1) := by decide +kernel
theorem dX1_applyDownTo_1 : decode cX1_applyDownTo 1 = .ok (.getfield 31, 3) := by decide +kernel
theorem dX1_applyDownTo_4 : decode cX1_applyDownTo 4 = .ok (.iconst 1, 1) := by decide +kernel
theorem dX1_applyDownTo_5 : decode cX1_applyDownTo 5 = .ok (.isub, 1) := by decide +kernel
theorem dX1_applyDownTo_6 : decode cX1_applyDownTo 6 = .ok (.istore_n 2, 1) := by decide +kernel
theorem dX1_applyDownTo_7 : decode cX1_applyDownTo 7 = .ok (.iload_n 2, 1) := by decide +kernel
theorem dX1_applyDownTo_8 : decode cX1_applyDownTo 8 = .ok (.sipush 160, 3) := by decide +kernel
theorem dX1_applyDownTo_11 : decode cX1_applyDownTo 11 = .ok (.invokestatic 58, 3) := by decide +kernel
theorem dX1_applyDownTo_14 : decode cX1_applyDownTo 14 = .ok (.ifCond .eq 62, 3) := by decide +kernel
theorem dX1_applyDownTo_17 : decode cX1_applyDownTo 17 = .ok (.aload_n 0, 1) := by decide +kernel
theorem dX1_applyDownTo_18 : decode cX1_applyDownTo 18 = .ok (.getfield 9, 3) := by decide +kernel
theorem dX1_applyDownTo_21 : decode cX1_applyDownTo 21 = .ok (.iload_n 2, 1) := by decide +kernel
theorem dX1_applyDownTo_22 : decode cX1_applyDownTo 22 = .ok (.iaload, 1) := by decide +kernel
theorem dX1_applyDownTo_23 : decode cX1_applyDownTo 23 = .ok (.istore_n 3, 1) := by decide +kernel
theorem dX1_applyDownTo_24 : decode cX1_applyDownTo 24 = .ok (.iload_n 3, 1) := by decide +kernel
theorem dX1_applyDownTo_25 : decode cX1_applyDownTo 25 = .ok (.invokestatic 65, 3) := by decide +kernel
theorem dX1_applyDownTo_28 : decode cX1_applyDownTo 28 = .ok (.iload_n 1, 1) := by decide +kernel
theorem dX1_applyDownTo_29 : decode cX1_applyDownTo 29 = .ok (.if_icmp .ge 4, 3) := by decide +kernel
theorem dX1_applyDownTo_32 : decode cX1_applyDownTo 32 = .ok (.return_, 1) := by decide +kernel
theorem dX1_applyDownTo_33 : decode cX1_applyDownTo 33 = .ok (.aload_n 0, 1) := by decide +kernel
theorem dX1_applyDownTo_34 : decode cX1_applyDownTo 34 = .ok (.iload_n 2, 1) := by decide +kernel
theorem dX1_applyDownTo_35 : decode cX1_applyDownTo 35 = .ok (.putfield 31, 3) := by decide +kernel
theorem dX1_applyDownTo_38 : decode cX1_applyDownTo 38 = .ok (.aload_n 0, 1) := by decide +kernel
theorem dX1_applyDownTo_39 : decode cX1_applyDownTo 39 = .ok (.getfield 27, 3) := by decide +kernel
theorem dX1_applyDownTo_42 : decode cX1_applyDownTo 42 = .ok (.iload_n 3, 1) := by decide +kernel
theorem dX1_applyDownTo_43 : decode cX1_applyDownTo 43 = .ok (.invokevirtual 54, 3) := by decide +kernel
theorem dX1_applyDownTo_46 : decode cX1_applyDownTo 46 = .ok (.iload_n 3, 1) := by decide +kernel
theorem dX1_applyDownTo_47 : decode cX1_applyDownTo 47 = .ok (.bipush 33, 2) := by decide +kernel
theorem dX1_applyDownTo_49 : decode cX1_applyDownTo 49 = .ok (.if_icmp .ne 16, 3) := by decide +kernel
theorem dX1_applyDownTo_52 : decode cX1_applyDownTo 52 = .ok (.aload_n 0, 1) := by decide +kernel
theorem dX1_applyDownTo_53 : decode cX1_applyDownTo 53 = .ok (.aload_n 0, 1) := by decide +kernel
theorem dX1_applyDownTo_54 : decode cX1_applyDownTo 54 = .ok (.getfield 15, 3) := by decide +kernel
theorem dX1_applyDownTo_57 : decode cX1_applyDownTo 57 = .ok (.iload_n 2, 1) := by decide +kernel
theorem dX1_applyDownTo_58 : decode cX1_applyDownTo 58 = .ok (.iaload, 1) := by decide +kernel
theorem dX1_applyDownTo_59 : decode cX1_applyDownTo 59 = .ok (.invokevirtual 68, 3) := by decide +kernel
theorem dX1_applyDownTo_62 : decode cX1_applyDownTo 62 = .ok (.goto 8, 3) := by decide +kernel
theorem dX1_applyDownTo_65 : decode cX1_applyDownTo 65 = .ok (.aload_n 0, 1) := by decide +kernel
theorem dX1_applyDownTo_66 : decode cX1_applyDownTo 66 = .ok (.iload_n 3, 1) := by decide +kernel
theorem dX1_applyDownTo_67 : decode cX1_applyDownTo 67 = .ok (.invokevirtual 71, 3) := by decide +kernel
theorem dX1_applyDownTo_70 : decode cX1_applyDownTo 70 = .ok (.iinc 2 (-1), 3) := by decide +kernel
theorem dX1_applyDownTo_73 : decode cX1_applyDownTo 73 = .ok (.goto (-66), 3) := by decide +kernel
theorem dX1_applyDownTo_76 : decode cX1_applyDownTo 76 = .ok (.return_, 1) := by decide +kernel
theorem dX1_turnOperand_0 : decode cX1_turnOperand 0 = .ok (.aload_n 0, 1) := by decide +kernel
theorem dX1_turnOperand_1 : decode cX1_turnOperand 1 = .ok (.getfield 35, 3) := by decide +kernel
theorem dX1_turnOperand_4 : decode cX1_turnOperand 4 = .ok (.iconst 1, 1) := by decide +kernel
theorem dX1_turnOperand_5 : decode cX1_turnOperand 5 = .ok (.isub, 1) := by decide +kernel
theorem dX1_turnOperand_6 : decode cX1_turnOperand 6 = .ok (.istore_n 2, 1) := by decide +kernel
theorem dX1_turnOperand_7 : decode cX1_turnOperand 7 = .ok (.aload_n 0, 1) := by decide +kernel
theorem dX1_turnOperand_8 : decode cX1_turnOperand 8 = .ok (.dup, 1) := by decide +kernel
theorem dX1_turnOperand_9 : decode cX1_turnOperand 9 = .ok (.getfield 38, 3) := by decide +kernel
theorem dX1_turnOperand_12 : decode cX1_turnOperand 12 = .ok (.iconst 1, 1) := by decide +kernel
theorem dX1_turnOperand_13 : decode cX1_turnOperand 13 = .ok (.isub, 1) := by decide +kernel
theorem dX1_turnOperand_14 : decode cX1_turnOperand 14 = .ok (.putfield 38, 3) := by decide +kernel
theorem dX1_turnOperand_17 : decode cX1_turnOperand 17 = .ok (.aload_n 0, 1) := by decide +kernel
theorem dX1_turnOperand_18 : decode cX1_turnOperand 18 = .ok (.iload_n 2, 1) := by decide +kernel
theorem dX1_turnOperand_19 : decode cX1_turnOperand 19 = .ok (.bipush 6, 2) := by decide +kernel
theorem dX1_turnOperand_21 : decode cX1_turnOperand 21 = .ok (.invokevirtual 74, 3) := by decide +kernel
theorem dX1_turnOperand_24 : decode cX1_turnOperand 24 = .ok (.iload_n 2, 1) := by decide +kernel
theorem dX1_turnOperand_25 : decode cX1_turnOperand 25 = .ok (.sipush 160, 3) := by decide +kernel
theorem dX1_turnOperand_28 : decode cX1_turnOperand 28 = .ok (.invokestatic 58, 3) := by decide +kernel
theorem dX1_turnOperand_31 : decode cX1_turnOperand 31 = .ok (.ifCond .eq 18, 3) := by decide +kernel
theorem dX1_turnOperand_34 : decode cX1_turnOperand 34 = .ok (.aload_n 0, 1) := by decide +kernel
theorem dX1_turnOperand_35 : decode cX1_turnOperand 35 = .ok (.getfield 18, 3) := by decide +kernel
theorem dX1_turnOperand_38 : decode cX1_turnOperand 38 = .ok (.iload_n 2, 1) := by decide +kernel
theorem dX1_turnOperand_39 : decode cX1_turnOperand 39 = .ok (.iload_n 1, 1) := by decide +kernel
theorem dX1_turnOperand_40 : decode cX1_turnOperand 40 = .ok (.iastore, 1) := by decide +kernel
theorem dX1_turnOperand_41 : decode cX1_turnOperand 41 = .ok (.aload_n 0, 1) := by decide +kernel
theorem dX1_turnOperand_42 : decode cX1_turnOperand 42 = .ok (.getfield 24, 3) := by decide +kernel
theorem dX1_turnOperand_45 : decode cX1_turnOperand 45 = .ok (.iload_n 2, 1) := by decide +kernel
theorem dX1_turnOperand_46 : decode cX1_turnOperand 46 = .ok (.bipush 6, 2) := by decide +kernel
theorem dX1_turnOperand_48 : decode cX1_turnOperand 48 = .ok (.iastore, 1) := by decide +kernel
theorem dX1_turnOperand_49 : decode cX1_turnOperand 49 = .ok (.return_, 1) := by decide +kernel
theorem dX1_joinOperands_0 : decode cX1_joinOperands 0 = .ok (.iload_n 1, 1) := by decide +kernel
theorem dX1_joinOperands_1 : decode cX1_joinOperands 1 = .ok (.invokestatic 65, 3) := by decide +kernel
theorem dX1_joinOperands_4 : decode cX1_joinOperands 4 = .ok (.istore_n 2, 1) := by decide +kernel
theorem dX1_joinOperands_5 : decode cX1_joinOperands 5 = .ok (.aload_n 0, 1) := by decide +kernel
theorem dX1_joinOperands_6 : decode cX1_joinOperands 6 = .ok (.getfield 35, 3) := by decide +kernel
theorem dX1_joinOperands_9 : decode cX1_joinOperands 9 = .ok (.iconst 1, 1) := by decide +kernel
theorem dX1_joinOperands_10 : decode cX1_joinOperands 10 = .ok (.isub, 1) := by decide +kernel
theorem dX1_joinOperands_11 : decode cX1_joinOperands 11 = .ok (.istore_n 3, 1) := by decide +kernel
theorem dX1_joinOperands_12 : decode cX1_joinOperands 12 = .ok (.iload_n 3, 1) := by decide +kernel
theorem dX1_joinOperands_13 : decode cX1_joinOperands 13 = .ok (.iconst 1, 1) := by decide +kernel
theorem dX1_joinOperands_14 : decode cX1_joinOperands 14 = .ok (.isub, 1) := by decide +kernel
theorem dX1_joinOperands_15 : decode cX1_joinOperands 15 = .ok (.istore 4, 2) := by decide +kernel
theorem dX1_joinOperands_17 : decode cX1_joinOperands 17 = .ok (.aload_n 0, 1) := by decide +kernel
theorem dX1_joinOperands_18 : decode cX1_joinOperands 18 = .ok (.iload 4, 2) := by decide +kernel
theorem dX1_joinOperands_20 : decode cX1_joinOperands 20 = .ok (.iload_n 1, 1) := by decide +kernel
theorem dX1_joinOperands_21 : decode cX1_joinOperands 21 = .ok (.bipush 62, 2) := by decide +kernel
theorem dX1_joinOperands_23 : decode cX1_joinOperands 23 = .ok (.if_icmp .ne 9, 3) := by decide +kernel
theorem dX1_joinOperands_26 : decode cX1_joinOperands 26 = .ok (.iload_n 2, 1) := by decide +kernel
theorem dX1_joinOperands_27 : decode cX1_joinOperands 27 = .ok (.iconst 1, 1) := by decide +kernel
theorem dX1_joinOperands_28 : decode cX1_joinOperands 28 = .ok (.iadd, 1) := by decide +kernel
theorem dX1_joinOperands_29 : decode cX1_joinOperands 29 = .ok (.goto 4, 3) := by decide +kernel
theorem dX1_joinOperands_32 : decode cX1_joinOperands 32 = .ok (.iload_n 2, 1) := by decide +kernel
theorem dX1_joinOperands_33 : decode cX1_joinOperands 33 = .ok (.invokevirtual 74, 3) := by decide +kernel
theorem dX1_joinOperands_36 : decode cX1_joinOperands 36 = .ok (.aload_n 0, 1) := by decide +kernel
theorem dX1_joinOperands_37 : decode cX1_joinOperands 37 = .ok (.iload_n 3, 1) := by decide +kernel
theorem dX1_joinOperands_38 : decode cX1_joinOperands 38 = .ok (.iload_n 1, 1) := by decide +kernel
theorem dX1_joinOperands_39 : decode cX1_joinOperands 39 = .ok (.bipush 62, 2) := by decide +kernel
theorem dX1_joinOperands_41 : decode cX1_joinOperands 41 = .ok (.if_icmp .ne 7, 3) := by decide +kernel
theorem dX1_joinOperands_44 : decode cX1_joinOperands 44 = .ok (.iload_n 2, 1) := by decide +kernel
theorem dX1_joinOperands_45 : decode cX1_joinOperands 45 = .ok (.goto 6, 3) := by decide +kernel
theorem dX1_joinOperands_48 : decode cX1_joinOperands 48 = .ok (.iload_n 2, 1) := by decide +kernel
theorem dX1_joinOperands_49 : decode cX1_joinOperands 49 = .ok (.iconst 1, 1) := by decide +kernel
theorem dX1_joinOperands_50 : decode cX1_joinOperands 50 = .ok (.iadd, 1) := by decide +kernel
theorem dX1_joinOperands_51 : decode cX1_joinOperands 51 = .ok (.invokevirtual 74, 3) := by decide +kernel
theorem dX1_joinOperands_54 : decode cX1_joinOperands 54 = .ok (.iload 4, 2) := by decide +kernel
theorem dX1_joinOperands_56 : decode cX1_joinOperands 56 = .ok (.sipush 160, 3) := by decide +kernel
theorem dX1_joinOperands_59 : decode cX1_joinOperands 59 = .ok (.invokestatic 58, 3) := by decide +kernel
theorem dX1_joinOperands_62 : decode cX1_joinOperands 62 = .ok (.ifCond .eq 39, 3) := by decide +kernel
theorem dX1_joinOperands_65 : decode cX1_joinOperands 65 = .ok (.iload_n 3, 1) := by decide +kernel
theorem dX1_joinOperands_66 : decode cX1_joinOperands 66 = .ok (.sipush 160, 3) := by decide +kernel
theorem dX1_joinOperands_69 : decode cX1_joinOperands 69 = .ok (.invokestatic 58, 3) := by decide +kernel
theorem dX1_joinOperands_72 : decode cX1_joinOperands 72 = .ok (.ifCond .eq 29, 3) := by decide +kernel
theorem dX1_joinOperands_75 : decode cX1_joinOperands 75 = .ok (.aload_n 0, 1) := by decide +kernel
theorem dX1_joinOperands_76 : decode cX1_joinOperands 76 = .ok (.getfield 21, 3) := by decide +kernel
theorem dX1_joinOperands_79 : decode cX1_joinOperands 79 = .ok (.iload 4, 2) := by decide +kernel
theorem dX1_joinOperands_81 : decode cX1_joinOperands 81 = .ok (.aload_n 0, 1) := by decide +kernel
theorem dX1_joinOperands_82 : decode cX1_joinOperands 82 = .ok (.getfield 21, 3) := by decide +kernel
theorem dX1_joinOperands_85 : decode cX1_joinOperands 85 = .ok (.iload_n 3, 1) := by decide +kernel
theorem dX1_joinOperands_86 : decode cX1_joinOperands 86 = .ok (.iaload, 1) := by decide +kernel
theorem dX1_joinOperands_87 : decode cX1_joinOperands 87 = .ok (.iastore, 1) := by decide +kernel
theorem dX1_joinOperands_88 : decode cX1_joinOperands 88 = .ok (.aload_n 0, 1) := by decide +kernel
theorem dX1_joinOperands_89 : decode cX1_joinOperands 89 = .ok (.getfield 24, 3) := by decide +kernel
theorem dX1_joinOperands_92 : decode cX1_joinOperands 92 = .ok (.iload 4, 2) := by decide +kernel
theorem dX1_joinOperands_94 : decode cX1_joinOperands 94 = .ok (.iload_n 2, 1) := by decide +kernel
theorem dX1_joinOperands_95 : decode cX1_joinOperands 95 = .ok (.iastore, 1) := by decide +kernel
theorem dX1_joinOperands_96 : decode cX1_joinOperands 96 = .ok (.aload_n 0, 1) := by decide +kernel
theorem dX1_joinOperands_97 : decode cX1_joinOperands 97 = .ok (.iload_n 3, 1) := by decide +kernel
theorem dX1_joinOperands_98 : decode cX1_joinOperands 98 = .ok (.putfield 35, 3) := by decide +kernel
theorem dX1_joinOperands_101 : decode cX1_joinOperands 101 = .ok (.return_, 1) := by decide +kernel
theorem dX1_wrapBelow_0 : decode cX1_wrapBelow 0 = .ok (.iload_n 1, 1) := by decide +kernel
theorem dX1_wrapBelow_1 : decode cX1_wrapBelow 1 = .ok (.sipush 160, 3) := by decide +kernel
theorem dX1_wrapBelow_4 : decode cX1_wrapBelow 4 = .ok (.invokestatic 58, 3) := by decide +kernel
theorem dX1_wrapBelow_7 : decode cX1_wrapBelow 7 = .ok (.ifCond .eq 32, 3) := by decide +kernel
theorem dX1_wrapBelow_10 : decode cX1_wrapBelow 10 = .ok (.aload_n 0, 1) := by decide +kernel
theorem dX1_wrapBelow_11 : decode cX1_wrapBelow 11 = .ok (.getfield 24, 3) := by decide +kernel
theorem dX1_wrapBelow_14 : decode cX1_wrapBelow 14 = .ok (.iload_n 1, 1) := by decide +kernel
theorem dX1_wrapBelow_15 : decode cX1_wrapBelow 15 = .ok (.iaload, 1) := by decide +kernel
theorem dX1_wrapBelow_16 : decode cX1_wrapBelow 16 = .ok (.iload_n 2, 1) := by decide +kernel
theorem dX1_wrapBelow_17 : decode cX1_wrapBelow 17 = .ok (.if_icmp .ge 22, 3) := by decide +kernel
theorem dX1_wrapBelow_20 : decode cX1_wrapBelow 20 = .ok (.aload_n 0, 1) := by decide +kernel
theorem dX1_wrapBelow_21 : decode cX1_wrapBelow 21 = .ok (.getfield 27, 3) := by decide +kernel
theorem dX1_wrapBelow_24 : decode cX1_wrapBelow 24 = .ok (.aload_n 0, 1) := by decide +kernel
theorem dX1_wrapBelow_25 : decode cX1_wrapBelow 25 = .ok (.getfield 18, 3) := by decide +kernel
theorem dX1_wrapBelow_28 : decode cX1_wrapBelow 28 = .ok (.iload_n 1, 1) := by decide +kernel
theorem dX1_wrapBelow_29 : decode cX1_wrapBelow 29 = .ok (.iaload, 1) := by decide +kernel
theorem dX1_wrapBelow_30 : decode cX1_wrapBelow 30 = .ok (.aload_n 0, 1) := by decide +kernel
theorem dX1_wrapBelow_31 : decode cX1_wrapBelow 31 = .ok (.getfield 21, 3) := by decide +kernel
theorem dX1_wrapBelow_34 : decode cX1_wrapBelow 34 = .ok (.iload_n 1, 1) := by decide +kernel
theorem dX1_wrapBelow_35 : decode cX1_wrapBelow 35 = .ok (.iaload, 1) := by decide +kernel
theorem dX1_wrapBelow_36 : decode cX1_wrapBelow 36 = .ok (.invokevirtual 77, 3) := by decide +kernel
theorem dX1_wrapBelow_39 : decode cX1_wrapBelow 39 = .ok (.return_, 1) := by decide +kernel
theorem dX2_init_0 : decode cX2_init 0 = .ok (.aload_n 0, 1) := by decide +kernel
theorem dX2_init_1 : decode cX2_init 1 = .ok (.invokespecial 3, 3) := by decide +kernel
theorem dX2_init_4 : decode cX2_init 4 = .ok (.aload_n 0, 1) := by decide +kernel
theorem dX2_init_5 : decode cX2_init 5 = .ok (.sipush 160, 3) := by decide +kernel
theorem dX2_init_8 : decode cX2_init 8 = .ok (.newarray .int, 2) := by decide +kernel
theorem dX2_init_10 : decode cX2_init 10 = .ok (.putfield 9, 3) := by decide +kernel
theorem dX2_init_13 : decode cX2_init 13 = .ok (.aload_n 0, 1) := by decide +kernel
theorem dX2_init_14 : decode cX2_init 14 = .ok (.sipush 160, 3) := by decide +kernel
theorem dX2_init_17 : decode cX2_init 17 = .ok (.newarray .int, 2) := by decide +kernel
theorem dX2_init_19 : decode cX2_init 19 = .ok (.putfield 15, 3) := by decide +kernel
theorem dX2_init_22 : decode cX2_init 22 = .ok (.aload_n 0, 1) := by decide +kernel
theorem dX2_init_23 : decode cX2_init 23 = .ok (.sipush 160, 3) := by decide +kernel
theorem dX2_init_26 : decode cX2_init 26 = .ok (.newarray .int, 2) := by decide +kernel
theorem dX2_init_28 : decode cX2_init 28 = .ok (.putfield 18, 3) := by decide +kernel
theorem dX2_init_31 : decode cX2_init 31 = .ok (.aload_n 0, 1) := by decide +kernel
theorem dX2_init_32 : decode cX2_init 32 = .ok (.sipush 160, 3) := by decide +kernel
theorem dX2_init_35 : decode cX2_init 35 = .ok (.newarray .int, 2) := by decide +kernel
theorem dX2_init_37 : decode cX2_init 37 = .ok (.putfield 21, 3) := by decide +kernel
theorem dX2_init_40 : decode cX2_init 40 = .ok (.return_, 1) := by decide +kernel
theorem dX2_clear_0 : decode cX2_clear 0 = .ok (.aload_n 0, 1) := by decide +kernel
theorem dX2_clear_1 : decode cX2_clear 1 = .ok (.iconst 0, 1) := by decide +kernel
theorem dX2_clear_2 : decode cX2_clear 2 = .ok (.putfield 24, 3) := by decide +kernel
theorem dX2_clear_5 : decode cX2_clear 5 = .ok (.aload_n 0, 1) := by decide +kernel
theorem dX2_clear_6 : decode cX2_clear 6 = .ok (.iconst 0, 1) := by decide +kernel
theorem dX2_clear_7 : decode cX2_clear 7 = .ok (.putfield 28, 3) := by decide +kernel
theorem dX2_clear_10 : decode cX2_clear 10 = .ok (.return_, 1) := by decide +kernel
theorem dX2_addSymbol_0 : decode cX2_addSymbol 0 = .ok (.aload_n 0, 1) := by decide +kernel
theorem dX2_addSymbol_1 : decode cX2_addSymbol 1 = .ok (.getfield 24, 3) := by decide +kernel
theorem dX2_addSymbol_4 : decode cX2_addSymbol 4 = .ok (.sipush 160, 3) := by decide +kernel
theorem dX2_addSymbol_7 : decode cX2_addSymbol 7 = .ok (.invokestatic 31, 3) := by decide +kernel
theorem dX2_addSymbol_10 : decode cX2_addSymbol 10 = .ok (.ifCond .ne 5, 3) := by decide +kernel
theorem dX2_addSymbol_13 : decode cX2_addSymbol 13 = .ok (.iconst (-1), 1) := by decide +kernel
theorem dX2_addSymbol_14 : decode cX2_addSymbol 14 = .ok (.ireturn, 1) := by decide +kernel
theorem dX2_addSymbol_15 : decode cX2_addSymbol 15 = .ok (.aload_n 0, 1) := by decide +kernel
theorem dX2_addSymbol_16 : decode cX2_addSymbol 16 = .ok (.getfield 9, 3) := by decide +kernel
theorem dX2_addSymbol_19 : decode cX2_addSymbol 19 = .ok (.aload_n 0, 1) := by decide +kernel
theorem dX2_addSymbol_20 : decode cX2_addSymbol 20 = .ok (.getfield 24, 3) := by decide +kernel
theorem dX2_addSymbol_23 : decode cX2_addSymbol 23 = .ok (.iload_n 1, 1) := by decide +kernel
theorem dX2_addSymbol_24 : decode cX2_addSymbol 24 = .ok (.iastore, 1) := by decide +kernel
theorem dX2_addSymbol_25 : decode cX2_addSymbol 25 = .ok (.aload_n 0, 1) := by decide +kernel
theorem dX2_addSymbol_26 : decode cX2_addSymbol 26 = .ok (.getfield 15, 3) := by decide +kernel
theorem dX2_addSymbol_29 : decode cX2_addSymbol 29 = .ok (.aload_n 0, 1) := by decide +kernel
theorem dX2_addSymbol_30 : decode cX2_addSymbol 30 = .ok (.getfield 24, 3) := by decide +kernel
theorem dX2_addSymbol_33 : decode cX2_addSymbol 33 = .ok (.iconst 0, 1) := by decide +kernel
theorem dX2_addSymbol_34 : decode cX2_addSymbol 34 = .ok (.iastore, 1) := by decide +kernel
theorem dX2_addSymbol_35 : decode cX2_addSymbol 35 = .ok (.aload_n 0, 1) := by decide +kernel
theorem dX2_addSymbol_36 : decode cX2_addSymbol 36 = .ok (.getfield 18, 3) := by decide +kernel
theorem dX2_addSymbol_39 : decode cX2_addSymbol 39 = .ok (.aload_n 0, 1) := by decide +kernel
theorem dX2_addSymbol_40 : decode cX2_addSymbol 40 = .ok (.getfield 24, 3) := by decide +kernel
theorem dX2_addSymbol_43 : decode cX2_addSymbol 43 = .ok (.iconst 0, 1) := by decide +kernel
theorem dX2_addSymbol_44 : decode cX2_addSymbol 44 = .ok (.iastore, 1) := by decide +kernel
theorem dX2_addSymbol_45 : decode cX2_addSymbol 45 = .ok (.aload_n 0, 1) := by decide +kernel
theorem dX2_addSymbol_46 : decode cX2_addSymbol 46 = .ok (.dup, 1) := by decide +kernel
theorem dX2_addSymbol_47 : decode cX2_addSymbol 47 = .ok (.getfield 24, 3) := by decide +kernel
theorem dX2_addSymbol_50 : decode cX2_addSymbol 50 = .ok (.iconst 1, 1) := by decide +kernel
theorem dX2_addSymbol_51 : decode cX2_addSymbol 51 = .ok (.iadd, 1) := by decide +kernel
theorem dX2_addSymbol_52 : decode cX2_addSymbol 52 = .ok (.putfield 24, 3) := by decide +kernel
theorem dX2_addSymbol_55 : decode cX2_addSymbol 55 = .ok (.aload_n 0, 1) := by decide +kernel
theorem dX2_addSymbol_56 : decode cX2_addSymbol 56 = .ok (.getfield 24, 3) := by decide +kernel
theorem dX2_addSymbol_59 : decode cX2_addSymbol 59 = .ok (.iconst 1, 1) := by decide +kernel
theorem dX2_addSymbol_60 : decode cX2_addSymbol 60 = .ok (.isub, 1) := by decide +kernel
theorem dX2_addSymbol_61 : decode cX2_addSymbol 61 = .ok (.ireturn, 1) := by decide +kernel
theorem dX2_addStep_0 : decode cX2_addStep 0 = .ok (.aload_n 0, 1) := by decide +kernel
theorem dX2_addStep_1 : decode cX2_addStep 1 = .ok (.getfield 28, 3) := by decide +kernel
theorem dX2_addStep_4 : decode cX2_addStep 4 = .ok (.sipush 160, 3) := by decide +kernel
theorem dX2_addStep_7 : decode cX2_addStep 7 = .ok (.invokestatic 31, 3) := by decide +kernel
theorem dX2_addStep_10 : decode cX2_addStep 10 = .ok (.ifCond .eq 23, 3) := by decide +kernel
theorem dX2_addStep_13 : decode cX2_addStep 13 = .ok (.aload_n 0, 1) := by decide +kernel
theorem dX2_addStep_14 : decode cX2_addStep 14 = .ok (.getfield 21, 3) := by decide +kernel
theorem dX2_addStep_17 : decode cX2_addStep 17 = .ok (.aload_n 0, 1) := by decide +kernel
theorem dX2_addStep_18 : decode cX2_addStep 18 = .ok (.getfield 28, 3) := by decide +kernel
theorem dX2_addStep_21 : decode cX2_addStep 21 = .ok (.iload_n 1, 1) := by decide +kernel
theorem dX2_addStep_22 : decode cX2_addStep 22 = .ok (.iastore, 1) := by decide +kernel
theorem dX2_addStep_23 : decode cX2_addStep 23 = .ok (.aload_n 0, 1) := by decide +kernel
theorem dX2_addStep_24 : decode cX2_addStep 24 = .ok (.dup, 1) := by decide +kernel
theorem dX2_addStep_25 : decode cX2_addStep 25 = .ok (.getfield 28, 3) := by decide +kernel
theorem dX2_addStep_28 : decode cX2_addStep 28 = .ok (.iconst 1, 1) := by decide +kernel
theorem dX2_addStep_29 : decode cX2_addStep 29 = .ok (.iadd, 1) := by decide +kernel
theorem dX2_addStep_30 : decode cX2_addStep 30 = .ok (.putfield 28, 3) := by decide +kernel
theorem dX2_addStep_33 : decode cX2_addStep 33 = .ok (.return_, 1) := by decide +kernel
theorem dX2_wrap_0 : decode cX2_wrap 0 = .ok (.iload_n 1, 1) := by decide +kernel
theorem dX2_wrap_1 : decode cX2_wrap 1 = .ok (.ifCond .lt 41, 3) := by decide +kernel
theorem dX2_wrap_4 : decode cX2_wrap 4 = .ok (.iload_n 1, 1) := by decide +kernel
theorem dX2_wrap_5 : decode cX2_wrap 5 = .ok (.sipush 160, 3) := by decide +kernel
theorem dX2_wrap_8 : decode cX2_wrap 8 = .ok (.if_icmp .ge 34, 3) := by decide +kernel
theorem dX2_wrap_11 : decode cX2_wrap 11 = .ok (.iload_n 2, 1) := by decide +kernel
theorem dX2_wrap_12 : decode cX2_wrap 12 = .ok (.ifCond .lt 30, 3) := by decide +kernel
theorem dX2_wrap_15 : decode cX2_wrap 15 = .ok (.iload_n 2, 1) := by decide +kernel
theorem dX2_wrap_16 : decode cX2_wrap 16 = .ok (.sipush 160, 3) := by decide +kernel
theorem dX2_wrap_19 : decode cX2_wrap 19 = .ok (.if_icmp .ge 23, 3) := by decide +kernel
theorem dX2_wrap_22 : decode cX2_wrap 22 = .ok (.aload_n 0, 1) := by decide +kernel
theorem dX2_wrap_23 : decode cX2_wrap 23 = .ok (.getfield 15, 3) := by decide +kernel
theorem dX2_wrap_26 : decode cX2_wrap 26 = .ok (.iload_n 1, 1) := by decide +kernel
theorem dX2_wrap_27 : decode cX2_wrap 27 = .ok (.dup2, 1) := by decide +kernel
theorem dX2_wrap_28 : decode cX2_wrap 28 = .ok (.iaload, 1) := by decide +kernel
theorem dX2_wrap_29 : decode cX2_wrap 29 = .ok (.iconst 1, 1) := by decide +kernel
theorem dX2_wrap_30 : decode cX2_wrap 30 = .ok (.iadd, 1) := by decide +kernel
theorem dX2_wrap_31 : decode cX2_wrap 31 = .ok (.iastore, 1) := by decide +kernel
theorem dX2_wrap_32 : decode cX2_wrap 32 = .ok (.aload_n 0, 1) := by decide +kernel
theorem dX2_wrap_33 : decode cX2_wrap 33 = .ok (.getfield 18, 3) := by decide +kernel
theorem dX2_wrap_36 : decode cX2_wrap 36 = .ok (.iload_n 2, 1) := by decide +kernel
theorem dX2_wrap_37 : decode cX2_wrap 37 = .ok (.dup2, 1) := by decide +kernel
theorem dX2_wrap_38 : decode cX2_wrap 38 = .ok (.iaload, 1) := by decide +kernel
theorem dX2_wrap_39 : decode cX2_wrap 39 = .ok (.iconst 1, 1) := by decide +kernel
theorem dX2_wrap_40 : decode cX2_wrap 40 = .ok (.iadd, 1) := by decide +kernel
theorem dX2_wrap_41 : decode cX2_wrap 41 = .ok (.iastore, 1) := by decide +kernel
theorem dX2_wrap_42 : decode cX2_wrap 42 = .ok (.return_, 1) := by decide +kernel
theorem dX2_symbolAt_0 : decode cX2_symbolAt 0 = .ok (.iload_n 1, 1) := by decide +kernel
theorem dX2_symbolAt_1 : decode cX2_symbolAt 1 = .ok (.sipush 160, 3) := by decide +kernel
theorem dX2_symbolAt_4 : decode cX2_symbolAt 4 = .ok (.invokestatic 31, 3) := by decide +kernel
theorem dX2_symbolAt_7 : decode cX2_symbolAt 7 = .ok (.ifCond .eq 12, 3) := by decide +kernel
theorem dX2_symbolAt_10 : decode cX2_symbolAt 10 = .ok (.aload_n 0, 1) := by decide +kernel
theorem dX2_symbolAt_11 : decode cX2_symbolAt 11 = .ok (.getfield 9, 3) := by decide +kernel
theorem dX2_symbolAt_14 : decode cX2_symbolAt 14 = .ok (.iload_n 1, 1) := by decide +kernel
theorem dX2_symbolAt_15 : decode cX2_symbolAt 15 = .ok (.iaload, 1) := by decide +kernel
theorem dX2_symbolAt_16 : decode cX2_symbolAt 16 = .ok (.goto 4, 3) := by decide +kernel
theorem dX2_symbolAt_19 : decode cX2_symbolAt 19 = .ok (.iconst (-1), 1) := by decide +kernel
theorem dX2_symbolAt_20 : decode cX2_symbolAt 20 = .ok (.ireturn, 1) := by decide +kernel
theorem dX2_opensAt_0 : decode cX2_opensAt 0 = .ok (.iload_n 1, 1) := by decide +kernel
theorem dX2_opensAt_1 : decode cX2_opensAt 1 = .ok (.sipush 160, 3) := by decide +kernel
theorem dX2_opensAt_4 : decode cX2_opensAt 4 = .ok (.invokestatic 31, 3) := by decide +kernel
theorem dX2_opensAt_7 : decode cX2_opensAt 7 = .ok (.ifCond .eq 12, 3) := by decide +kernel
theorem dX2_opensAt_10 : decode cX2_opensAt 10 = .ok (.aload_n 0, 1) := by decide +kernel
theorem dX2_opensAt_11 : decode cX2_opensAt 11 = .ok (.getfield 15, 3) := by decide +kernel
theorem dX2_opensAt_14 : decode cX2_opensAt 14 = .ok (.iload_n 1, 1) := by decide +kernel
theorem dX2_opensAt_15 : decode cX2_opensAt 15 = .ok (.iaload, 1) := by decide +kernel
theorem dX2_opensAt_16 : decode cX2_opensAt 16 = .ok (.goto 4, 3) := by decide +kernel
theorem dX2_opensAt_19 : decode cX2_opensAt 19 = .ok (.iconst 0, 1) := by decide +kernel
theorem dX2_opensAt_20 : decode cX2_opensAt 20 = .ok (.ireturn, 1) := by decide +kernel
theorem dX2_closesAt_0 : decode cX2_closesAt 0 = .ok (.iload_n 1, 1) := by decide +kernel
theorem dX2_closesAt_1 : decode cX2_closesAt 1 = .ok (.sipush 160, 3) := by decide +kernel
theorem dX2_closesAt_4 : decode cX2_closesAt 4 = .ok (.invokestatic 31, 3) := by decide +kernel
theorem dX2_closesAt_7 : decode cX2_closesAt 7 = .ok (.ifCond .eq 12, 3) := by decide +kernel
theorem dX2_closesAt_10 : decode cX2_closesAt 10 = .ok (.aload_n 0, 1) := by decide +kernel
theorem dX2_closesAt_11 : decode cX2_closesAt 11 = .ok (.getfield 18, 3) := by decide +kernel
theorem dX2_closesAt_14 : decode cX2_closesAt 14 = .ok (.iload_n 1, 1) := by decide +kernel
theorem dX2_closesAt_15 : decode cX2_closesAt 15 = .ok (.iaload, 1) := by decide +kernel
theorem dX2_closesAt_16 : decode cX2_closesAt 16 = .ok (.goto 4, 3) := by decide +kernel
theorem dX2_closesAt_19 : decode cX2_closesAt 19 = .ok (.iconst 0, 1) := by decide +kernel
theorem dX2_closesAt_20 : decode cX2_closesAt 20 = .ok (.ireturn, 1) := by decide +kernel
theorem dX2_stepAt_0 : decode cX2_stepAt 0 = .ok (.iload_n 1, 1) := by decide +kernel
theorem dX2_stepAt_1 : decode cX2_stepAt 1 = .ok (.sipush 160, 3) := by decide +kernel
theorem dX2_stepAt_4 : decode cX2_stepAt 4 = .ok (.invokestatic 31, 3) := by decide +kernel
theorem dX2_stepAt_7 : decode cX2_stepAt 7 = .ok (.ifCond .eq 12, 3) := by decide +kernel

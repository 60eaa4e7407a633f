theorem dX11_init_79 : decode cX11_init 79 = .ok (.aload_n 0, 1) := by decide +kernel
theorem dX11_init_80 : decode cX11_init 80 = .ok (.iconst (-1), 1) := by decide +kernel
theorem dX11_init_81 : decode cX11_init 81 = .ok (.putfield 57, 3) := by decide +kernel
theorem dX11_init_84 : decode cX11_init 84 = .ok (.return_, 1) := by decide +kernel
theorem dX11_feed_0 : decode cX11_feed 0 = .ok (.aload_n 0, 1) := by decide +kernel
theorem dX11_feed_1 : decode cX11_feed 1 = .ok (.getfield 10, 3) := by decide +kernel
theorem dX11_feed_4 : decode cX11_feed 4 = .ok (.getfield 60, 3) := by decide +kernel
theorem dX11_feed_7 : decode cX11_feed 7 = .ok (.sipush 580, 3) := by decide +kernel
theorem dX11_feed_10 : decode cX11_feed 10 = .ok (.if_icmp .le 5, 3) := by decide +kernel
theorem dX11_feed_13 : decode cX11_feed 13 = .ok (.iconst (-1), 1) := by decide +kernel
theorem dX11_feed_14 : decode cX11_feed 14 = .ok (.ireturn, 1) := by decide +kernel
theorem dX11_feed_15 : decode cX11_feed 15 = .ok (.aload_n 0, 1) := by decide +kernel
theorem dX11_feed_16 : decode cX11_feed 16 = .ok (.getfield 10, 3) := by decide +kernel
theorem dX11_feed_19 : decode cX11_feed 19 = .ok (.iload_n 1, 1) := by decide +kernel
theorem dX11_feed_20 : decode cX11_feed 20 = .ok (.invokevirtual 63, 3) := by decide +kernel
theorem dX11_feed_23 : decode cX11_feed 23 = .ok (.aload_n 0, 1) := by decide +kernel
theorem dX11_feed_24 : decode cX11_feed 24 = .ok (.getfield 10, 3) := by decide +kernel
theorem dX11_feed_27 : decode cX11_feed 27 = .ok (.iload_n 2, 1) := by decide +kernel
theorem dX11_feed_28 : decode cX11_feed 28 = .ok (.invokevirtual 63, 3) := by decide +kernel
theorem dX11_feed_31 : decode cX11_feed 31 = .ok (.aload_n 0, 1) := by decide +kernel
theorem dX11_feed_32 : decode cX11_feed 32 = .ok (.getfield 10, 3) := by decide +kernel
theorem dX11_feed_35 : decode cX11_feed 35 = .ok (.iload_n 3, 1) := by decide +kernel
theorem dX11_feed_36 : decode cX11_feed 36 = .ok (.invokevirtual 63, 3) := by decide +kernel
theorem dX11_feed_39 : decode cX11_feed 39 = .ok (.aload_n 0, 1) := by decide +kernel
theorem dX11_feed_40 : decode cX11_feed 40 = .ok (.getfield 10, 3) := by decide +kernel
theorem dX11_feed_43 : decode cX11_feed 43 = .ok (.iload 4, 2) := by decide +kernel
theorem dX11_feed_45 : decode cX11_feed 45 = .ok (.invokevirtual 63, 3) := by decide +kernel
theorem dX11_feed_48 : decode cX11_feed 48 = .ok (.aload_n 0, 1) := by decide +kernel
theorem dX11_feed_49 : decode cX11_feed 49 = .ok (.getfield 10, 3) := by decide +kernel
theorem dX11_feed_52 : decode cX11_feed 52 = .ok (.iload 5, 2) := by decide +kernel
theorem dX11_feed_54 : decode cX11_feed 54 = .ok (.invokevirtual 63, 3) := by decide +kernel
theorem dX11_feed_57 : decode cX11_feed 57 = .ok (.aload_n 0, 1) := by decide +kernel
theorem dX11_feed_58 : decode cX11_feed 58 = .ok (.getfield 10, 3) := by decide +kernel
theorem dX11_feed_61 : decode cX11_feed 61 = .ok (.getfield 60, 3) := by decide +kernel
theorem dX11_feed_64 : decode cX11_feed 64 = .ok (.ireturn, 1) := by decide +kernel
theorem dX11_read_0 : decode cX11_read 0 = .ok (.iload_n 1, 1) := by decide +kernel
theorem dX11_read_1 : decode cX11_read 1 = .ok (.ifCond .lt 14, 3) := by decide +kernel
theorem dX11_read_4 : decode cX11_read 4 = .ok (.iload_n 1, 1) := by decide +kernel
theorem dX11_read_5 : decode cX11_read 5 = .ok (.aload_n 0, 1) := by decide +kernel
theorem dX11_read_6 : decode cX11_read 6 = .ok (.getfield 10, 3) := by decide +kernel
theorem dX11_read_9 : decode cX11_read 9 = .ok (.getfield 60, 3) := by decide +kernel
theorem dX11_read_12 : decode cX11_read 12 = .ok (.if_icmp .le 5, 3) := by decide +kernel
theorem dX11_read_15 : decode cX11_read 15 = .ok (.iconst (-1), 1) := by decide +kernel
theorem dX11_read_16 : decode cX11_read 16 = .ok (.ireturn, 1) := by decide +kernel
theorem dX11_read_17 : decode cX11_read 17 = .ok (.aload_n 0, 1) := by decide +kernel
theorem dX11_read_18 : decode cX11_read 18 = .ok (.aload_n 0, 1) := by decide +kernel
theorem dX11_read_19 : decode cX11_read 19 = .ok (.getfield 21, 3) := by decide +kernel
theorem dX11_read_22 : decode cX11_read 22 = .ok (.iload_n 1, 1) := by decide +kernel
theorem dX11_read_23 : decode cX11_read 23 = .ok (.invokevirtual 67, 3) := by decide +kernel
theorem dX11_read_26 : decode cX11_read 26 = .ok (.putfield 53, 3) := by decide +kernel
theorem dX11_read_29 : decode cX11_read 29 = .ok (.aload_n 0, 1) := by decide +kernel
theorem dX11_read_30 : decode cX11_read 30 = .ok (.aload_n 0, 1) := by decide +kernel
theorem dX11_read_31 : decode cX11_read 31 = .ok (.getfield 53, 3) := by decide +kernel
theorem dX11_read_34 : decode cX11_read 34 = .ok (.ifCond .ne 7, 3) := by decide +kernel
theorem dX11_read_37 : decode cX11_read 37 = .ok (.iconst (-1), 1) := by decide +kernel
theorem dX11_read_38 : decode cX11_read 38 = .ok (.goto 10, 3) := by decide +kernel
theorem dX11_read_41 : decode cX11_read 41 = .ok (.aload_n 0, 1) := by decide +kernel
theorem dX11_read_42 : decode cX11_read 42 = .ok (.getfield 21, 3) := by decide +kernel
theorem dX11_read_45 : decode cX11_read 45 = .ok (.invokevirtual 71, 3) := by decide +kernel
theorem dX11_read_48 : decode cX11_read 48 = .ok (.putfield 57, 3) := by decide +kernel
theorem dX11_read_51 : decode cX11_read 51 = .ok (.aload_n 0, 1) := by decide +kernel
theorem dX11_read_52 : decode cX11_read 52 = .ok (.getfield 10, 3) := by decide +kernel
theorem dX11_read_55 : decode cX11_read 55 = .ok (.iconst 0, 1) := by decide +kernel
theorem dX11_read_56 : decode cX11_read 56 = .ok (.putfield 60, 3) := by decide +kernel
theorem dX11_read_59 : decode cX11_read 59 = .ok (.aload_n 0, 1) := by decide +kernel
theorem dX11_read_60 : decode cX11_read 60 = .ok (.getfield 53, 3) := by decide +kernel
theorem dX11_read_63 : decode cX11_read 63 = .ok (.ifCond .eq 6, 3) := by decide +kernel
theorem dX11_read_66 : decode cX11_read 66 = .ok (.bipush (-2), 2) := by decide +kernel
theorem dX11_read_68 : decode cX11_read 68 = .ok (.ireturn, 1) := by decide +kernel
theorem dX11_read_69 : decode cX11_read 69 = .ok (.aload_n 0, 1) := by decide +kernel
theorem dX11_read_70 : decode cX11_read 70 = .ok (.aload_n 0, 1) := by decide +kernel
theorem dX11_read_71 : decode cX11_read 71 = .ok (.getfield 21, 3) := by decide +kernel
theorem dX11_read_74 : decode cX11_read 74 = .ok (.aload_n 0, 1) := by decide +kernel
theorem dX11_read_75 : decode cX11_read 75 = .ok (.getfield 49, 3) := by decide +kernel
theorem dX11_read_78 : decode cX11_read 78 = .ok (.invokevirtual 75, 3) := by decide +kernel
theorem dX11_read_81 : decode cX11_read 81 = .ok (.putfield 49, 3) := by decide +kernel
theorem dX11_read_84 : decode cX11_read 84 = .ok (.aload_n 0, 1) := by decide +kernel
theorem dX11_read_85 : decode cX11_read 85 = .ok (.getfield 49, 3) := by decide +kernel
theorem dX11_read_88 : decode cX11_read 88 = .ok (.getfield 79, 3) := by decide +kernel
theorem dX11_read_91 : decode cX11_read 91 = .ok (.aload_n 0, 1) := by decide +kernel
theorem dX11_read_92 : decode cX11_read 92 = .ok (.getfield 49, 3) := by decide +kernel
theorem dX11_read_95 : decode cX11_read 95 = .ok (.getfield 83, 3) := by decide +kernel
theorem dX11_read_98 : decode cX11_read 98 = .ok (.aload_n 0, 1) := by decide +kernel
theorem dX11_read_99 : decode cX11_read 99 = .ok (.getfield 49, 3) := by decide +kernel
theorem dX11_read_102 : decode cX11_read 102 = .ok (.getfield 87, 3) := by decide +kernel
theorem dX11_read_105 : decode cX11_read 105 = .ok (.getfield 91, 3) := by decide +kernel
theorem dX11_read_108 : decode cX11_read 108 = .ok (.invokevirtual 96, 3) := by decide +kernel
theorem dX11_read_111 : decode cX11_read 111 = .ok (.aload_n 0, 1) := by decide +kernel
theorem dX11_read_112 : decode cX11_read 112 = .ok (.getfield 28, 3) := by decide +kernel
theorem dX11_read_115 : decode cX11_read 115 = .ok (.invokevirtual 102, 3) := by decide +kernel
theorem dX11_read_118 : decode cX11_read 118 = .ok (.aload_n 0, 1) := by decide +kernel
theorem dX11_read_119 : decode cX11_read 119 = .ok (.getfield 49, 3) := by decide +kernel
theorem dX11_read_122 : decode cX11_read 122 = .ok (.getfield 87, 3) := by decide +kernel
theorem dX11_read_125 : decode cX11_read 125 = .ok (.getfield 105, 3) := by decide +kernel
theorem dX11_read_128 : decode cX11_read 128 = .ok (.ireturn, 1) := by decide +kernel
theorem dX11_fault_0 : decode cX11_fault 0 = .ok (.iload_n 1, 1) := by decide +kernel
theorem dX11_fault_1 : decode cX11_fault 1 = .ok (.ifCond .ne 8, 3) := by decide +kernel
theorem dX11_fault_4 : decode cX11_fault 4 = .ok (.aload_n 0, 1) := by decide +kernel
theorem dX11_fault_5 : decode cX11_fault 5 = .ok (.getfield 53, 3) := by decide +kernel
theorem dX11_fault_8 : decode cX11_fault 8 = .ok (.ireturn, 1) := by decide +kernel
theorem dX11_fault_9 : decode cX11_fault 9 = .ok (.iload_n 1, 1) := by decide +kernel
theorem dX11_fault_10 : decode cX11_fault 10 = .ok (.iconst 1, 1) := by decide +kernel
theorem dX11_fault_11 : decode cX11_fault 11 = .ok (.if_icmp .ne 10, 3) := by decide +kernel
theorem dX11_fault_14 : decode cX11_fault 14 = .ok (.aload_n 0, 1) := by decide +kernel
theorem dX11_fault_15 : decode cX11_fault 15 = .ok (.getfield 57, 3) := by decide +kernel
theorem dX11_fault_18 : decode cX11_fault 18 = .ok (.goto 4, 3) := by decide +kernel
theorem dX11_fault_21 : decode cX11_fault 21 = .ok (.iconst (-1), 1) := by decide +kernel
theorem dX11_fault_22 : decode cX11_fault 22 = .ok (.ireturn, 1) := by decide +kernel
theorem dX11_truth_0 : decode cX11_truth 0 = .ok (.aload_n 0, 1) := by decide +kernel
theorem dX11_truth_1 : decode cX11_truth 1 = .ok (.getfield 35, 3) := by decide +kernel
theorem dX11_truth_4 : decode cX11_truth 4 = .ok (.aload_n 0, 1) := by decide +kernel
theorem dX11_truth_5 : decode cX11_truth 5 = .ok (.getfield 49, 3) := by decide +kernel
theorem dX11_truth_8 : decode cX11_truth 8 = .ok (.getfield 87, 3) := by decide +kernel
theorem dX11_truth_11 : decode cX11_truth 11 = .ok (.invokevirtual 108, 3) := by decide +kernel
theorem dX11_truth_14 : decode cX11_truth 14 = .ok (.aload_n 0, 1) := by decide +kernel
theorem dX11_truth_15 : decode cX11_truth 15 = .ok (.aload_n 0, 1) := by decide +kernel
theorem dX11_truth_16 : decode cX11_truth 16 = .ok (.getfield 28, 3) := by decide +kernel
theorem dX11_truth_19 : decode cX11_truth 19 = .ok (.getfield 112, 3) := by decide +kernel
theorem dX11_truth_22 : decode cX11_truth 22 = .ok (.invokevirtual 115, 3) := by decide +kernel
theorem dX11_truth_25 : decode cX11_truth 25 = .ok (.ireturn, 1) := by decide +kernel
theorem dX11_turn_0 : decode cX11_turn 0 = .ok (.aload_n 0, 1) := by decide +kernel
theorem dX11_turn_1 : decode cX11_turn 1 = .ok (.getfield 49, 3) := by decide +kernel
theorem dX11_turn_4 : decode cX11_turn 4 = .ok (.getfield 87, 3) := by decide +kernel
theorem dX11_turn_7 : decode cX11_turn 7 = .ok (.aload_n 0, 1) := by decide +kernel
theorem dX11_turn_8 : decode cX11_turn 8 = .ok (.getfield 28, 3) := by decide +kernel
theorem dX11_turn_11 : decode cX11_turn 11 = .ok (.getfield 118, 3) := by decide +kernel
theorem dX11_turn_14 : decode cX11_turn 14 = .ok (.invokevirtual 120, 3) := by decide +kernel
theorem dX11_turn_17 : decode cX11_turn 17 = .ok (.ireturn, 1) := by decide +kernel
theorem dX11_move_0 : decode cX11_move 0 = .ok (.aload_n 0, 1) := by decide +kernel
theorem dX11_move_1 : decode cX11_move 1 = .ok (.invokevirtual 123, 3) := by decide +kernel
theorem dX11_move_4 : decode cX11_move 4 = .ok (.ifCond .eq 5, 3) := by decide +kernel
theorem dX11_move_7 : decode cX11_move 7 = .ok (.iconst (-1), 1) := by decide +kernel
theorem dX11_move_8 : decode cX11_move 8 = .ok (.ireturn, 1) := by decide +kernel
theorem dX11_move_9 : decode cX11_move 9 = .ok (.aload_n 0, 1) := by decide +kernel
theorem dX11_move_10 : decode cX11_move 10 = .ok (.invokevirtual 127, 3) := by decide +kernel
theorem dX11_move_13 : decode cX11_move 13 = .ok (.istore_n 1, 1) := by decide +kernel
theorem dX11_move_14 : decode cX11_move 14 = .ok (.aload_n 0, 1) := by decide +kernel
theorem dX11_move_15 : decode cX11_move 15 = .ok (.invokevirtual 130, 3) := by decide +kernel
theorem dX11_move_18 : decode cX11_move 18 = .ok (.istore_n 2, 1) := by decide +kernel
theorem dX11_move_19 : decode cX11_move 19 = .ok (.aload_n 0, 1) := by decide +kernel
theorem dX11_move_20 : decode cX11_move 20 = .ok (.invokevirtual 133, 3) := by decide +kernel
theorem dX11_move_23 : decode cX11_move 23 = .ok (.iconst 0, 1) := by decide +kernel
theorem dX11_move_24 : decode cX11_move 24 = .ok (.istore_n 3, 1) := by decide +kernel
theorem dX11_move_25 : decode cX11_move 25 = .ok (.iload_n 3, 1) := by decide +kernel
theorem dX11_move_26 : decode cX11_move 26 = .ok (.iload_n 1, 1) := by decide +kernel
theorem dX11_move_27 : decode cX11_move 27 = .ok (.if_icmp .ge 23, 3) := by decide +kernel
theorem dX11_move_30 : decode cX11_move 30 = .ok (.aload_n 0, 1) := by decide +kernel
theorem dX11_move_31 : decode cX11_move 31 = .ok (.getfield 35, 3) := by decide +kernel
theorem dX11_move_34 : decode cX11_move 34 = .ok (.iload_n 3, 1) := by decide +kernel
theorem dX11_move_35 : decode cX11_move 35 = .ok (.invokevirtual 136, 3) := by decide +kernel
theorem dX11_move_38 : decode cX11_move 38 = .ok (.iload_n 2, 1) := by decide +kernel
theorem dX11_move_39 : decode cX11_move 39 = .ok (.if_icmp .ne 5, 3) := by decide +kernel
theorem dX11_move_42 : decode cX11_move 42 = .ok (.iload_n 3, 1) := by decide +kernel
theorem dX11_move_43 : decode cX11_move 43 = .ok (.ireturn, 1) := by decide +kernel
theorem dX11_move_44 : decode cX11_move 44 = .ok (.iinc 3 1, 3) := by decide +kernel
theorem dX11_move_47 : decode cX11_move 47 = .ok (.goto (-22), 3) := by decide +kernel
theorem dX11_move_50 : decode cX11_move 50 = .ok (.iconst (-1), 1) := by decide +kernel
theorem dX11_move_51 : decode cX11_move 51 = .ok (.ireturn, 1) := by decide +kernel
theorem dX11_wins_0 : decode cX11_wins 0 = .ok (.aload_n 0, 1) := by decide +kernel
theorem dX11_wins_1 : decode cX11_wins 1 = .ok (.iload_n 1, 1) := by decide +kernel
theorem dX11_wins_2 : decode cX11_wins 2 = .ok (.invokevirtual 139, 3) := by decide +kernel
theorem dX11_wins_5 : decode cX11_wins 5 = .ok (.ifCond .ne 5, 3) := by decide +kernel
theorem dX11_wins_8 : decode cX11_wins 8 = .ok (.iconst (-1), 1) := by decide +kernel
theorem dX11_wins_9 : decode cX11_wins 9 = .ok (.ireturn, 1) := by decide +kernel
theorem dX11_wins_10 : decode cX11_wins 10 = .ok (.aload_n 0, 1) := by decide +kernel
theorem dX11_wins_11 : decode cX11_wins 11 = .ok (.getfield 49, 3) := by decide +kernel
theorem dX11_wins_14 : decode cX11_wins 14 = .ok (.getfield 87, 3) := by decide +kernel
theorem dX11_wins_17 : decode cX11_wins 17 = .ok (.aload_n 0, 1) := by decide +kernel
theorem dX11_wins_18 : decode cX11_wins 18 = .ok (.getfield 28, 3) := by decide +kernel
theorem dX11_wins_21 : decode cX11_wins 21 = .ok (.getfield 118, 3) := by decide +kernel
theorem dX11_wins_24 : decode cX11_wins 24 = .ok (.invokevirtual 143, 3) := by decide +kernel
theorem dX11_wins_27 : decode cX11_wins 27 = .ok (.istore_n 2, 1) := by decide +kernel
theorem dX11_wins_28 : decode cX11_wins 28 = .ok (.aload_n 0, 1) := by decide +kernel
theorem dX11_wins_29 : decode cX11_wins 29 = .ok (.getfield 28, 3) := by decide +kernel
theorem dX11_wins_32 : decode cX11_wins 32 = .ok (.getfield 146, 3) := by decide +kernel
theorem dX11_wins_35 : decode cX11_wins 35 = .ok (.iload_n 2, 1) := by decide +kernel
theorem dX11_wins_36 : decode cX11_wins 36 = .ok (.iadd, 1) := by decide +kernel
theorem dX11_wins_37 : decode cX11_wins 37 = .ok (.istore_n 3, 1) := by decide +kernel
theorem dX11_wins_38 : decode cX11_wins 38 = .ok (.aload_n 0, 1) := by decide +kernel
theorem dX11_wins_39 : decode cX11_wins 39 = .ok (.getfield 35, 3) := by decide +kernel
theorem dX11_wins_42 : decode cX11_wins 42 = .ok (.aload_n 0, 1) := by decide +kernel
theorem dX11_wins_43 : decode cX11_wins 43 = .ok (.getfield 49, 3) := by decide +kernel
theorem dX11_wins_46 : decode cX11_wins 46 = .ok (.getfield 87, 3) := by decide +kernel
theorem dX11_wins_49 : decode cX11_wins 49 = .ok (.invokevirtual 108, 3) := by decide +kernel
theorem dX11_wins_52 : decode cX11_wins 52 = .ok (.aload_n 0, 1) := by decide +kernel
theorem dX11_wins_53 : decode cX11_wins 53 = .ok (.getfield 35, 3) := by decide +kernel
theorem dX11_wins_56 : decode cX11_wins 56 = .ok (.aload_n 0, 1) := by decide +kernel
theorem dX11_wins_57 : decode cX11_wins 57 = .ok (.getfield 49, 3) := by decide +kernel
theorem dX11_wins_60 : decode cX11_wins 60 = .ok (.getfield 79, 3) := by decide +kernel
theorem dX11_wins_63 : decode cX11_wins 63 = .ok (.aload_n 0, 1) := by decide +kernel
theorem dX11_wins_64 : decode cX11_wins 64 = .ok (.getfield 28, 3) := by decide +kernel
theorem dX11_wins_67 : decode cX11_wins 67 = .ok (.getfield 112, 3) := by decide +kernel
theorem dX11_wins_70 : decode cX11_wins 70 = .ok (.iload_n 2, 1) := by decide +kernel
theorem dX11_wins_71 : decode cX11_wins 71 = .ok (.ishl, 1) := by decide +kernel
theorem dX11_wins_72 : decode cX11_wins 72 = .ok (.iload_n 1, 1) := by decide +kernel
theorem dX11_wins_73 : decode cX11_wins 73 = .ok (.ior, 1) := by decide +kernel
theorem dX11_wins_74 : decode cX11_wins 74 = .ok (.iload_n 3, 1) := by decide +kernel
theorem dX11_wins_75 : decode cX11_wins 75 = .ok (.iload_n 3, 1) := by decide +kernel
theorem dX11_wins_76 : decode cX11_wins 76 = .ok (.invokevirtual 147, 3) := by decide +kernel
theorem dX11_wins_79 : decode cX11_wins 79 = .ok (.aload_n 0, 1) := by decide +kernel
theorem dX11_wins_80 : decode cX11_wins 80 = .ok (.getfield 35, 3) := by decide +kernel
theorem dX11_wins_83 : decode cX11_wins 83 = .ok (.iconst 0, 1) := by decide +kernel
theorem dX11_wins_84 : decode cX11_wins 84 = .ok (.invokevirtual 136, 3) := by decide +kernel
theorem dX11_wins_87 : decode cX11_wins 87 = .ok (.aload_n 0, 1) := by decide +kernel
theorem dX11_wins_88 : decode cX11_wins 88 = .ok (.invokevirtual 130, 3) := by decide +kernel
theorem dX11_wins_91 : decode cX11_wins 91 = .ok (.if_icmp .ne 7, 3) := by decide +kernel
theorem dX11_wins_94 : decode cX11_wins 94 = .ok (.iconst 1, 1) := by decide +kernel
theorem dX11_wins_95 : decode cX11_wins 95 = .ok (.goto 4, 3) := by decide +kernel
theorem dX11_wins_98 : decode cX11_wins 98 = .ok (.iconst 0, 1) := by decide +kernel
theorem dX11_wins_99 : decode cX11_wins 99 = .ok (.ireturn, 1) := by decide +kernel
theorem dX11_moves_0 : decode cX11_moves 0 = .ok (.aload_n 0, 1) := by decide +kernel
theorem dX11_moves_1 : decode cX11_moves 1 = .ok (.invokevirtual 123, 3) := by decide +kernel
theorem dX11_moves_4 : decode cX11_moves 4 = .ok (.ifCond .eq 5, 3) := by decide +kernel
theorem dX11_moves_7 : decode cX11_moves 7 = .ok (.iconst (-1), 1) := by decide +kernel
theorem dX11_moves_8 : decode cX11_moves 8 = .ok (.ireturn, 1) := by decide +kernel
theorem dX11_moves_9 : decode cX11_moves 9 = .ok (.aload_n 0, 1) := by decide +kernel
theorem dX11_moves_10 : decode cX11_moves 10 = .ok (.invokevirtual 127, 3) := by decide +kernel
theorem dX11_moves_13 : decode cX11_moves 13 = .ok (.istore_n 1, 1) := by decide +kernel
theorem dX11_moves_14 : decode cX11_moves 14 = .ok (.aload_n 0, 1) := by decide +kernel
theorem dX11_moves_15 : decode cX11_moves 15 = .ok (.invokevirtual 130, 3) := by decide +kernel
theorem dX11_moves_18 : decode cX11_moves 18 = .ok (.istore_n 2, 1) := by decide +kernel
theorem dX11_moves_19 : decode cX11_moves 19 = .ok (.iconst 0, 1) := by decide +kernel
theorem dX11_moves_20 : decode cX11_moves 20 = .ok (.istore_n 3, 1) := by decide +kernel
theorem dX11_moves_21 : decode cX11_moves 21 = .ok (.aload_n 0, 1) := by decide +kernel
theorem dX11_moves_22 : decode cX11_moves 22 = .ok (.invokevirtual 133, 3) := by decide +kernel
theorem dX11_moves_25 : decode cX11_moves 25 = .ok (.iconst 0, 1) := by decide +kernel
theorem dX11_moves_26 : decode cX11_moves 26 = .ok (.istore 4, 2) := by decide +kernel
theorem dX11_moves_28 : decode cX11_moves 28 = .ok (.iload 4, 2) := by decide +kernel
theorem dX11_moves_30 : decode cX11_moves 30 = .ok (.iload_n 1, 1) := by decide +kernel
theorem dX11_moves_31 : decode cX11_moves 31 = .ok (.if_icmp .ge 25, 3) := by decide +kernel
theorem dX11_moves_34 : decode cX11_moves 34 = .ok (.aload_n 0, 1) := by decide +kernel
theorem dX11_moves_35 : decode cX11_moves 35 = .ok (.getfield 35, 3) := by decide +kernel
theorem dX11_moves_38 : decode cX11_moves 38 = .ok (.iload 4, 2) := by decide +kernel
theorem dX11_moves_40 : decode cX11_moves 40 = .ok (.invokevirtual 136, 3) := by decide +kernel
theorem dX11_moves_43 : decode cX11_moves 43 = .ok (.iload_n 2, 1) := by decide +kernel
theorem dX11_moves_44 : decode cX11_moves 44 = .ok (.if_icmp .ne 6, 3) := by decide +kernel
theorem dX11_moves_47 : decode cX11_moves 47 = .ok (.iinc 3 1, 3) := by decide +kernel
theorem dX11_moves_50 : decode cX11_moves 50 = .ok (.iinc 4 1, 3) := by decide +kernel
theorem dX11_moves_53 : decode cX11_moves 53 = .ok (.goto (-25), 3) := by decide +kernel
theorem dX11_moves_56 : decode cX11_moves 56 = .ok (.iload_n 3, 1) := by decide +kernel
theorem dX11_moves_57 : decode cX11_moves 57 = .ok (.ireturn, 1) := by decide +kernel
theorem dX11_play_0 : decode cX11_play 0 = .ok (.aload_n 0, 1) := by decide +kernel
theorem dX11_play_1 : decode cX11_play 1 = .ok (.iload_n 1, 1) := by decide +kernel
theorem dX11_play_2 : decode cX11_play 2 = .ok (.invokevirtual 139, 3) := by decide +kernel
theorem dX11_play_5 : decode cX11_play 5 = .ok (.ifCond .ne 5, 3) := by decide +kernel
theorem dX11_play_8 : decode cX11_play 8 = .ok (.iconst 0, 1) := by decide +kernel
theorem dX11_play_9 : decode cX11_play 9 = .ok (.ireturn, 1) := by decide +kernel
theorem dX11_play_10 : decode cX11_play 10 = .ok (.aload_n 0, 1) := by decide +kernel
theorem dX11_play_11 : decode cX11_play 11 = .ok (.getfield 28, 3) := by decide +kernel
theorem dX11_play_14 : decode cX11_play 14 = .ok (.iload_n 1, 1) := by decide +kernel
theorem dX11_play_15 : decode cX11_play 15 = .ok (.aload_n 0, 1) := by decide +kernel
theorem dX11_play_16 : decode cX11_play 16 = .ok (.getfield 49, 3) := by decide +kernel
theorem dX11_play_19 : decode cX11_play 19 = .ok (.getfield 87, 3) := by decide +kernel
theorem dX11_play_22 : decode cX11_play 22 = .ok (.aload_n 0, 1) := by decide +kernel
theorem dX11_play_23 : decode cX11_play 23 = .ok (.getfield 28, 3) := by decide +kernel
theorem dX11_play_26 : decode cX11_play 26 = .ok (.getfield 118, 3) := by decide +kernel
theorem dX11_play_29 : decode cX11_play 29 = .ok (.invokevirtual 143, 3) := by decide +kernel
theorem dX11_play_32 : decode cX11_play 32 = .ok (.invokevirtual 151, 3) := by decide +kernel
theorem dX11_play_35 : decode cX11_play 35 = .ok (.iconst 1, 1) := by decide +kernel
theorem dX11_play_36 : decode cX11_play 36 = .ok (.ireturn, 1) := by decide +kernel
theorem dX11_undo_0 : decode cX11_undo 0 = .ok (.aload_n 0, 1) := by decide +kernel
theorem dX11_undo_1 : decode cX11_undo 1 = .ok (.getfield 28, 3) := by decide +kernel
theorem dX11_undo_4 : decode cX11_undo 4 = .ok (.getfield 118, 3) := by decide +kernel
theorem dX11_undo_7 : decode cX11_undo 7 = .ok (.ifCond .ne 5, 3) := by decide +kernel
theorem dX11_undo_10 : decode cX11_undo 10 = .ok (.iconst (-1), 1) := by decide +kernel
theorem dX11_undo_11 : decode cX11_undo 11 = .ok (.ireturn, 1) := by decide +kernel
theorem dX11_undo_12 : decode cX11_undo 12 = .ok (.aload_n 0, 1) := by decide +kernel
theorem dX11_undo_13 : decode cX11_undo 13 = .ok (.getfield 28, 3) := by decide +kernel
theorem dX11_undo_16 : decode cX11_undo 16 = .ok (.aload_n 0, 1) := by decide +kernel
theorem dX11_undo_17 : decode cX11_undo 17 = .ok (.getfield 49, 3) := by decide +kernel
theorem dX11_undo_20 : decode cX11_undo 20 = .ok (.getfield 87, 3) := by decide +kernel
theorem dX11_undo_23 : decode cX11_undo 23 = .ok (.aload_n 0, 1) := by decide +kernel
theorem dX11_undo_24 : decode cX11_undo 24 = .ok (.getfield 28, 3) := by decide +kernel
theorem dX11_undo_27 : decode cX11_undo 27 = .ok (.getfield 118, 3) := by decide +kernel
theorem dX11_undo_30 : decode cX11_undo 30 = .ok (.iconst 1, 1) := by decide +kernel
theorem dX11_undo_31 : decode cX11_undo 31 = .ok (.isub, 1) := by decide +kernel
theorem dX11_undo_32 : decode cX11_undo 32 = .ok (.invokevirtual 143, 3) := by decide +kernel
theorem dX11_undo_35 : decode cX11_undo 35 = .ok (.invokevirtual 155, 3) := by decide +kernel
theorem dX11_undo_38 : decode cX11_undo 38 = .ok (.ireturn, 1) := by decide +kernel
theorem dX11_fixed_0 : decode cX11_fixed 0 = .ok (.iload_n 1, 1) := by decide +kernel
theorem dX11_fixed_1 : decode cX11_fixed 1 = .ok (.aload_n 0, 1) := by decide +kernel
theorem dX11_fixed_2 : decode cX11_fixed 2 = .ok (.getfield 49, 3) := by decide +kernel
theorem dX11_fixed_5 : decode cX11_fixed 5 = .ok (.getfield 87, 3) := by decide +kernel
theorem dX11_fixed_8 : decode cX11_fixed 8 = .ok (.getfield 91, 3) := by decide +kernel
theorem dX11_fixed_11 : decode cX11_fixed 11 = .ok (.invokestatic 158, 3) := by decide +kernel
theorem dX11_fixed_14 : decode cX11_fixed 14 = .ok (.ifCond .eq 11, 3) := by decide +kernel
theorem dX11_fixed_17 : decode cX11_fixed 17 = .ok (.iload_n 2, 1) := by decide +kernel
theorem dX11_fixed_18 : decode cX11_fixed 18 = .ok (.iconst 2, 1) := by decide +kernel
theorem dX11_fixed_19 : decode cX11_fixed 19 = .ok (.invokestatic 158, 3) := by decide +kernel
theorem dX11_fixed_22 : decode cX11_fixed 22 = .ok (.ifCond .ne 5, 3) := by decide +kernel
theorem dX11_fixed_25 : decode cX11_fixed 25 = .ok (.iconst (-1), 1) := by decide +kernel
theorem dX11_fixed_26 : decode cX11_fixed 26 = .ok (.ireturn, 1) := by decide +kernel
theorem dX11_fixed_27 : decode cX11_fixed 27 = .ok (.aload_n 0, 1) := by decide +kernel
theorem dX11_fixed_28 : decode cX11_fixed 28 = .ok (.getfield 35, 3) := by decide +kernel
theorem dX11_fixed_31 : decode cX11_fixed 31 = .ok (.aload_n 0, 1) := by decide +kernel
theorem dX11_fixed_32 : decode cX11_fixed 32 = .ok (.getfield 49, 3) := by decide +kernel
theorem dX11_fixed_35 : decode cX11_fixed 35 = .ok (.getfield 87, 3) := by decide +kernel
theorem dX11_fixed_38 : decode cX11_fixed 38 = .ok (.invokevirtual 108, 3) := by decide +kernel
theorem dX11_fixed_41 : decode cX11_fixed 41 = .ok (.iload_n 1, 1) := by decide +kernel
theorem dX11_fixed_42 : decode cX11_fixed 42 = .ok (.aload_n 0, 1) := by decide +kernel
theorem dX11_fixed_43 : decode cX11_fixed 43 = .ok (.getfield 28, 3) := by decide +kernel
theorem dX11_fixed_46 : decode cX11_fixed 46 = .ok (.getfield 146, 3) := by decide +kernel
theorem dX11_fixed_49 : decode cX11_fixed 49 = .ok (.if_icmp .ge 17, 3) := by decide +kernel
theorem dX11_fixed_52 : decode cX11_fixed 52 = .ok (.aload_n 0, 1) := by decide +kernel
theorem dX11_fixed_53 : decode cX11_fixed 53 = .ok (.aload_n 0, 1) := by decide +kernel
theorem dX11_fixed_54 : decode cX11_fixed 54 = .ok (.getfield 28, 3) := by decide +kernel
theorem dX11_fixed_57 : decode cX11_fixed 57 = .ok (.iload_n 1, 1) := by decide +kernel
theorem dX11_fixed_58 : decode cX11_fixed 58 = .ok (.iload_n 2, 1) := by decide +kernel
theorem dX11_fixed_59 : decode cX11_fixed 59 = .ok (.invokevirtual 162, 3) := by decide +kernel
theorem dX11_fixed_62 : decode cX11_fixed 62 = .ok (.invokevirtual 115, 3) := by decide +kernel
theorem dX11_fixed_65 : decode cX11_fixed 65 = .ok (.ireturn, 1) := by decide +kernel
theorem dX11_fixed_66 : decode cX11_fixed 66 = .ok (.aload_n 0, 1) := by decide +kernel
theorem dX11_fixed_67 : decode cX11_fixed 67 = .ok (.getfield 35, 3) := by decide +kernel
theorem dX11_fixed_70 : decode cX11_fixed 70 = .ok (.iload_n 1, 1) := by decide +kernel
theorem dX11_fixed_71 : decode cX11_fixed 71 = .ok (.iload_n 2, 1) := by decide +kernel
theorem dX11_fixed_72 : decode cX11_fixed 72 = .ok (.invokevirtual 166, 3) := by decide +kernel
theorem dX11_fixed_75 : decode cX11_fixed 75 = .ok (.aload_n 0, 1) := by decide +kernel
theorem dX11_fixed_76 : decode cX11_fixed 76 = .ok (.aload_n 0, 1) := by decide +kernel
theorem dX11_fixed_77 : decode cX11_fixed 77 = .ok (.getfield 28, 3) := by decide +kernel
theorem dX11_fixed_80 : decode cX11_fixed 80 = .ok (.getfield 112, 3) := by decide +kernel
theorem dX11_fixed_83 : decode cX11_fixed 83 = .ok (.invokevirtual 115, 3) := by decide +kernel
theorem dX11_fixed_86 : decode cX11_fixed 86 = .ok (.ireturn, 1) := by decide +kernel
theorem dX11_turned_0 : decode cX11_turned 0 = .ok (.iload_n 1, 1) := by decide +kernel
theorem dX11_turned_1 : decode cX11_turned 1 = .ok (.aload_n 0, 1) := by decide +kernel
theorem dX11_turned_2 : decode cX11_turned 2 = .ok (.getfield 49, 3) := by decide +kernel
theorem dX11_turned_5 : decode cX11_turned 5 = .ok (.getfield 87, 3) := by decide +kernel
theorem dX11_turned_8 : decode cX11_turned 8 = .ok (.getfield 105, 3) := by decide +kernel
theorem dX11_turned_11 : decode cX11_turned 11 = .ok (.invokestatic 158, 3) := by decide +kernel
theorem dX11_turned_14 : decode cX11_turned 14 = .ok (.ifCond .eq 14, 3) := by decide +kernel
theorem dX11_turned_17 : decode cX11_turned 17 = .ok (.iload_n 1, 1) := by decide +kernel
theorem dX11_turned_18 : decode cX11_turned 18 = .ok (.aload_n 0, 1) := by decide +kernel
theorem dX11_turned_19 : decode cX11_turned 19 = .ok (.getfield 28, 3) := by decide +kernel
theorem dX11_turned_22 : decode cX11_turned 22 = .ok (.getfield 118, 3) := by decide +kernel
theorem dX11_turned_25 : decode cX11_turned 25 = .ok (.if_icmp .ge 5, 3) := by decide +kernel
theorem dX11_turned_28 : decode cX11_turned 28 = .ok (.iconst (-1), 1) := by decide +kernel
theorem dX11_turned_29 : decode cX11_turned 29 = .ok (.ireturn, 1) := by decide +kernel
theorem dX11_turned_30 : decode cX11_turned 30 = .ok (.aload_n 0, 1) := by decide +kernel
theorem dX11_turned_31 : decode cX11_turned 31 = .ok (.getfield 35, 3) := by decide +kernel
theorem dX11_turned_34 : decode cX11_turned 34 = .ok (.aload_n 0, 1) := by decide +kernel
theorem dX11_turned_35 : decode cX11_turned 35 = .ok (.getfield 49, 3) := by decide +kernel
theorem dX11_turned_38 : decode cX11_turned 38 = .ok (.getfield 87, 3) := by decide +kernel
theorem dX11_turned_41 : decode cX11_turned 41 = .ok (.invokevirtual 108, 3) := by decide +kernel
theorem dX11_turned_44 : decode cX11_turned 44 = .ok (.aload_n 0, 1) := by decide +kernel
theorem dX11_turned_45 : decode cX11_turned 45 = .ok (.getfield 35, 3) := by decide +kernel
theorem dX11_turned_48 : decode cX11_turned 48 = .ok (.aload_n 0, 1) := by decide +kernel
theorem dX11_turned_49 : decode cX11_turned 49 = .ok (.getfield 49, 3) := by decide +kernel
theorem dX11_turned_52 : decode cX11_turned 52 = .ok (.getfield 87, 3) := by decide +kernel
theorem dX11_turned_55 : decode cX11_turned 55 = .ok (.iload_n 1, 1) := by decide +kernel
theorem dX11_turned_56 : decode cX11_turned 56 = .ok (.invokevirtual 169, 3) := by decide +kernel
theorem dX11_turned_59 : decode cX11_turned 59 = .ok (.aload_n 0, 1) := by decide +kernel
theorem dX11_turned_60 : decode cX11_turned 60 = .ok (.aload_n 0, 1) := by decide +kernel
theorem dX11_turned_61 : decode cX11_turned 61 = .ok (.getfield 28, 3) := by decide +kernel
theorem dX11_turned_64 : decode cX11_turned 64 = .ok (.getfield 112, 3) := by decide +kernel
theorem dX11_turned_67 : decode cX11_turned 67 = .ok (.invokevirtual 115, 3) := by decide +kernel
theorem dX11_turned_70 : decode cX11_turned 70 = .ok (.ireturn, 1) := by decide +kernel
theorem dX11_models_0 : decode cX11_models 0 = .ok (.aload_n 0, 1) := by decide +kernel
theorem dX11_models_1 : decode cX11_models 1 = .ok (.getfield 35, 3) := by decide +kernel
theorem dX11_models_4 : decode cX11_models 4 = .ok (.aload_n 0, 1) := by decide +kernel
theorem dX11_models_5 : decode cX11_models 5 = .ok (.getfield 49, 3) := by decide +kernel
theorem dX11_models_8 : decode cX11_models 8 = .ok (.getfield 87, 3) := by decide +kernel
theorem dX11_models_11 : decode cX11_models 11 = .ok (.invokevirtual 108, 3) := by decide +kernel
theorem dX11_models_14 : decode cX11_models 14 = .ok (.aload_n 0, 1) := by decide +kernel
theorem dX11_models_15 : decode cX11_models 15 = .ok (.getfield 35, 3) := by decide +kernel
theorem dX11_models_18 : decode cX11_models 18 = .ok (.aload_n 0, 1) := by decide +kernel
theorem dX11_models_19 : decode cX11_models 19 = .ok (.getfield 49, 3) := by decide +kernel
theorem dX11_models_22 : decode cX11_models 22 = .ok (.getfield 79, 3) := by decide +kernel
theorem dX11_models_25 : decode cX11_models 25 = .ok (.aload_n 0, 1) := by decide +kernel
theorem dX11_models_26 : decode cX11_models 26 = .ok (.getfield 28, 3) := by decide +kernel
theorem dX11_models_29 : decode cX11_models 29 = .ok (.getfield 112, 3) := by decide +kernel
theorem dX11_models_32 : decode cX11_models 32 = .ok (.aload_n 0, 1) := by decide +kernel
theorem dX11_models_33 : decode cX11_models 33 = .ok (.getfield 28, 3) := by decide +kernel
theorem dX11_models_36 : decode cX11_models 36 = .ok (.getfield 146, 3) := by decide +kernel
theorem dX11_models_39 : decode cX11_models 39 = .ok (.invokevirtual 173, 3) := by decide +kernel
theorem dX11_models_42 : decode cX11_models 42 = .ok (.ireturn, 1) := by decide +kernel
theorem dX11_write_0 : decode cX11_write 0 = .ok (.aload_n 0, 1) := by decide +kernel
theorem dX11_write_1 : decode cX11_write 1 = .ok (.getfield 42, 3) := by decide +kernel
theorem dX11_write_4 : decode cX11_write 4 = .ok (.iconst 0, 1) := by decide +kernel
theorem dX11_write_5 : decode cX11_write 5 = .ok (.putfield 177, 3) := by decide +kernel
theorem dX11_write_8 : decode cX11_write 8 = .ok (.iconst 0, 1) := by decide +kernel
theorem dX11_write_9 : decode cX11_write 9 = .ok (.istore_n 1, 1) := by decide +kernel
theorem dX11_write_10 : decode cX11_write 10 = .ok (.iload_n 1, 1) := by decide +kernel
theorem dX11_write_11 : decode cX11_write 11 = .ok (.aload_n 0, 1) := by decide +kernel
theorem dX11_write_12 : decode cX11_write 12 = .ok (.getfield 49, 3) := by decide +kernel
theorem dX11_write_15 : decode cX11_write 15 = .ok (.getfield 83, 3) := by decide +kernel
theorem dX11_write_18 : decode cX11_write 18 = .ok (.getfield 178, 3) := by decide +kernel
theorem dX11_write_21 : decode cX11_write 21 = .ok (.if_icmp .ge 74, 3) := by decide +kernel
theorem dX11_write_24 : decode cX11_write 24 = .ok (.aload_n 0, 1) := by decide +kernel
theorem dX11_write_25 : decode cX11_write 25 = .ok (.getfield 42, 3) := by decide +kernel
theorem dX11_write_28 : decode cX11_write 28 = .ok (.bipush 40, 2) := by decide +kernel
theorem dX11_write_30 : decode cX11_write 30 = .ok (.aload_n 0, 1) := by decide +kernel
theorem dX11_write_31 : decode cX11_write 31 = .ok (.getfield 49, 3) := by decide +kernel
theorem dX11_write_34 : decode cX11_write 34 = .ok (.getfield 83, 3) := by decide +kernel
theorem dX11_write_37 : decode cX11_write 37 = .ok (.iload_n 1, 1) := by decide +kernel
theorem dX11_write_38 : decode cX11_write 38 = .ok (.invokevirtual 183, 3) := by decide +kernel
theorem dX11_write_41 : decode cX11_write 41 = .ok (.invokevirtual 186, 3) := by decide +kernel
theorem dX11_write_44 : decode cX11_write 44 = .ok (.aload_n 0, 1) := by decide +kernel
theorem dX11_write_45 : decode cX11_write 45 = .ok (.getfield 42, 3) := by decide +kernel
theorem dX11_write_48 : decode cX11_write 48 = .ok (.aload_n 0, 1) := by decide +kernel
theorem dX11_write_49 : decode cX11_write 49 = .ok (.getfield 49, 3) := by decide +kernel
theorem dX11_write_52 : decode cX11_write 52 = .ok (.getfield 83, 3) := by decide +kernel
theorem dX11_write_55 : decode cX11_write 55 = .ok (.iload_n 1, 1) := by decide +kernel
theorem dX11_write_56 : decode cX11_write 56 = .ok (.invokevirtual 189, 3) := by decide +kernel
theorem dX11_write_59 : decode cX11_write 59 = .ok (.aload_n 0, 1) := by decide +kernel
theorem dX11_write_60 : decode cX11_write 60 = .ok (.getfield 49, 3) := by decide +kernel
theorem dX11_write_63 : decode cX11_write 63 = .ok (.getfield 87, 3) := by decide +kernel
theorem dX11_write_66 : decode cX11_write 66 = .ok (.invokevirtual 192, 3) := by decide +kernel
theorem dX11_write_69 : decode cX11_write 69 = .ok (.aload_n 0, 1) := by decide +kernel
theorem dX11_write_70 : decode cX11_write 70 = .ok (.getfield 42, 3) := by decide +kernel
theorem dX11_write_73 : decode cX11_write 73 = .ok (.bipush 41, 2) := by decide +kernel
theorem dX11_write_75 : decode cX11_write 75 = .ok (.aload_n 0, 1) := by decide +kernel
theorem dX11_write_76 : decode cX11_write 76 = .ok (.getfield 49, 3) := by decide +kernel
theorem dX11_write_79 : decode cX11_write 79 = .ok (.getfield 83, 3) := by decide +kernel
theorem dX11_write_82 : decode cX11_write 82 = .ok (.iload_n 1, 1) := by decide +kernel
theorem dX11_write_83 : decode cX11_write 83 = .ok (.invokevirtual 196, 3) := by decide +kernel
theorem dX11_write_86 : decode cX11_write 86 = .ok (.invokevirtual 186, 3) := by decide +kernel
theorem dX11_write_89 : decode cX11_write 89 = .ok (.iinc 1 1, 3) := by decide +kernel
theorem dX11_write_92 : decode cX11_write 92 = .ok (.goto (-82), 3) := by decide +kernel
theorem dX11_write_95 : decode cX11_write 95 = .ok (.aload_n 0, 1) := by decide +kernel
theorem dX11_write_96 : decode cX11_write 96 = .ok (.getfield 42, 3) := by decide +kernel
theorem dX11_write_99 : decode cX11_write 99 = .ok (.getfield 177, 3) := by decide +kernel
theorem dX11_write_102 : decode cX11_write 102 = .ok (.ireturn, 1) := by decide +kernel
theorem dX11_octet_0 : decode cX11_octet 0 = .ok (.aload_n 0, 1) := by decide +kernel
theorem dX11_octet_1 : decode cX11_octet 1 = .ok (.getfield 42, 3) := by decide +kernel
theorem dX11_octet_4 : decode cX11_octet 4 = .ok (.iload_n 1, 1) := by decide +kernel
theorem dX11_octet_5 : decode cX11_octet 5 = .ok (.invokevirtual 199, 3) := by decide +kernel
theorem dX11_octet_8 : decode cX11_octet 8 = .ok (.ireturn, 1) := by decide +kernel
theorem dX11_look_0 : decode cX11_look 0 = .ok (.iload_n 1, 1) := by decide +kernel
theorem dX11_look_1 : decode cX11_look 1 = .ok (.tableswitch 69 0 3 #[31, 42, 53, 61], 31) := by decide +kernel
theorem dX11_look_32 : decode cX11_look 32 = .ok (.aload_n 0, 1) := by decide +kernel
theorem dX11_look_33 : decode cX11_look 33 = .ok (.getfield 49, 3) := by decide +kernel
theorem dX11_look_36 : decode cX11_look 36 = .ok (.getfield 87, 3) := by decide +kernel
theorem dX11_look_39 : decode cX11_look 39 = .ok (.getfield 91, 3) := by decide +kernel
theorem dX11_look_42 : decode cX11_look 42 = .ok (.ireturn, 1) := by decide +kernel
theorem dX11_look_43 : decode cX11_look 43 = .ok (.aload_n 0, 1) := by decide +kernel
theorem dX11_look_44 : decode cX11_look 44 = .ok (.getfield 49, 3) := by decide +kernel
theorem dX11_look_47 : decode cX11_look 47 = .ok (.getfield 87, 3) := by decide +kernel
theorem dX11_look_50 : decode cX11_look 50 = .ok (.getfield 105, 3) := by decide +kernel
theorem dX11_look_53 : decode cX11_look 53 = .ok (.ireturn, 1) := by decide +kernel
theorem dX11_look_54 : decode cX11_look 54 = .ok (.aload_n 0, 1) := by decide +kernel
theorem dX11_look_55 : decode cX11_look 55 = .ok (.getfield 28, 3) := by decide +kernel
theorem dX11_look_58 : decode cX11_look 58 = .ok (.getfield 118, 3) := by decide +kernel
theorem dX11_look_61 : decode cX11_look 61 = .ok (.ireturn, 1) := by decide +kernel
theorem dX11_look_62 : decode cX11_look 62 = .ok (.aload_n 0, 1) := by decide +kernel
theorem dX11_look_63 : decode cX11_look 63 = .ok (.getfield 10, 3) := by decide +kernel
theorem dX11_look_66 : decode cX11_look 66 = .ok (.getfield 60, 3) := by decide +kernel
theorem dX11_look_69 : decode cX11_look 69 = .ok (.ireturn, 1) := by decide +kernel
theorem dX11_look_70 : decode cX11_look 70 = .ok (.aload_n 0, 1) := by decide +kernel
theorem dX11_look_71 : decode cX11_look 71 = .ok (.iload_n 1, 1) := by decide +kernel
theorem dX11_look_72 : decode cX11_look 72 = .ok (.invokevirtual 202, 3) := by decide +kernel
theorem dX11_look_75 : decode cX11_look 75 = .ok (.ireturn, 1) := by decide +kernel
theorem dX11_lookInBlocks_0 : decode cX11_lookInBlocks 0 = .ok (.iload_n 1, 1) := by decide +kernel
theorem dX11_lookInBlocks_1 : decode cX11_lookInBlocks 1 = .ok (.bipush 10, 2) := by decide +kernel
theorem dX11_lookInBlocks_3 : decode cX11_lookInBlocks 3 = .ok (.isub, 1) := by decide +kernel
theorem dX11_lookInBlocks_4 : decode cX11_lookInBlocks 4 = .ok (.bipush 6, 2) := by decide +kernel
theorem dX11_lookInBlocks_6 : decode cX11_lookInBlocks 6 = .ok (.invokestatic 158, 3) := by decide +kernel
theorem dX11_lookInBlocks_9 : decode cX11_lookInBlocks 9 = .ok (.ifCond .eq 18, 3) := by decide +kernel
theorem dX11_lookInBlocks_12 : decode cX11_lookInBlocks 12 = .ok (.aload_n 0, 1) := by decide +kernel
theorem dX11_lookInBlocks_13 : decode cX11_lookInBlocks 13 = .ok (.getfield 49, 3) := by decide +kernel
theorem dX11_lookInBlocks_16 : decode cX11_lookInBlocks 16 = .ok (.getfield 87, 3) := by decide +kernel
theorem dX11_lookInBlocks_19 : decode cX11_lookInBlocks 19 = .ok (.iload_n 1, 1) := by decide +kernel
theorem dX11_lookInBlocks_20 : decode cX11_lookInBlocks 20 = .ok (.bipush 10, 2) := by decide +kernel
theorem dX11_lookInBlocks_22 : decode cX11_lookInBlocks 22 = .ok (.isub, 1) := by decide +kernel
theorem dX11_lookInBlocks_23 : decode cX11_lookInBlocks 23 = .ok (.invokevirtual 143, 3) := by decide +kernel
theorem dX11_lookInBlocks_26 : decode cX11_lookInBlocks 26 = .ok (.ireturn, 1) := by decide +kernel
theorem dX11_lookInBlocks_27 : decode cX11_lookInBlocks 27 = .ok (.iload_n 1, 1) := by decide +kernel
theorem dX11_lookInBlocks_28 : decode cX11_lookInBlocks 28 = .ok (.bipush 20, 2) := by decide +kernel
theorem dX11_lookInBlocks_30 : decode cX11_lookInBlocks 30 = .ok (.isub, 1) := by decide +kernel
theorem dX11_lookInBlocks_31 : decode cX11_lookInBlocks 31 = .ok (.bipush 10, 2) := by decide +kernel
theorem dX11_lookInBlocks_33 : decode cX11_lookInBlocks 33 = .ok (.invokestatic 158, 3) := by decide +kernel
theorem dX11_lookInBlocks_36 : decode cX11_lookInBlocks 36 = .ok (.ifCond .eq 18, 3) := by decide +kernel
theorem dX11_lookInBlocks_39 : decode cX11_lookInBlocks 39 = .ok (.aload_n 0, 1) := by decide +kernel
theorem dX11_lookInBlocks_40 : decode cX11_lookInBlocks 40 = .ok (.getfield 49, 3) := by decide +kernel
theorem dX11_lookInBlocks_43 : decode cX11_lookInBlocks 43 = .ok (.getfield 87, 3) := by decide +kernel
theorem dX11_lookInBlocks_46 : decode cX11_lookInBlocks 46 = .ok (.iload_n 1, 1) := by decide +kernel
theorem dX11_lookInBlocks_47 : decode cX11_lookInBlocks 47 = .ok (.bipush 20, 2) := by decide +kernel
theorem dX11_lookInBlocks_49 : decode cX11_lookInBlocks 49 = .ok (.isub, 1) := by decide +kernel
theorem dX11_lookInBlocks_50 : decode cX11_lookInBlocks 50 = .ok (.invokevirtual 205, 3) := by decide +kernel
theorem dX11_lookInBlocks_53 : decode cX11_lookInBlocks 53 = .ok (.ireturn, 1) := by decide +kernel
theorem dX11_lookInBlocks_54 : decode cX11_lookInBlocks 54 = .ok (.iload_n 1, 1) := by decide +kernel
theorem dX11_lookInBlocks_55 : decode cX11_lookInBlocks 55 = .ok (.bipush 40, 2) := by decide +kernel
theorem dX11_lookInBlocks_57 : decode cX11_lookInBlocks 57 = .ok (.isub, 1) := by decide +kernel
theorem dX11_lookInBlocks_58 : decode cX11_lookInBlocks 58 = .ok (.bipush 10, 2) := by decide +kernel
theorem dX11_lookInBlocks_60 : decode cX11_lookInBlocks 60 = .ok (.invokestatic 158, 3) := by decide +kernel
theorem dX11_lookInBlocks_63 : decode cX11_lookInBlocks 63 = .ok (.ifCond .eq 18, 3) := by decide +kernel
theorem dX11_lookInBlocks_66 : decode cX11_lookInBlocks 66 = .ok (.aload_n 0, 1) := by decide +kernel
theorem dX11_lookInBlocks_67 : decode cX11_lookInBlocks 67 = .ok (.getfield 49, 3) := by decide +kernel
theorem dX11_lookInBlocks_70 : decode cX11_lookInBlocks 70 = .ok (.getfield 87, 3) := by decide +kernel
theorem dX11_lookInBlocks_73 : decode cX11_lookInBlocks 73 = .ok (.iload_n 1, 1) := by decide +kernel
theorem dX11_lookInBlocks_74 : decode cX11_lookInBlocks 74 = .ok (.bipush 40, 2) := by decide +kernel
theorem dX11_lookInBlocks_76 : decode cX11_lookInBlocks 76 = .ok (.isub, 1) := by decide +kernel
theorem dX11_lookInBlocks_77 : decode cX11_lookInBlocks 77 = .ok (.invokevirtual 208, 3) := by decide +kernel
theorem dX11_lookInBlocks_80 : decode cX11_lookInBlocks 80 = .ok (.ireturn, 1) := by decide +kernel
theorem dX11_lookInBlocks_81 : decode cX11_lookInBlocks 81 = .ok (.iload_n 1, 1) := by decide +kernel
theorem dX11_lookInBlocks_82 : decode cX11_lookInBlocks 82 = .ok (.bipush 60, 2) := by decide +kernel
theorem dX11_lookInBlocks_84 : decode cX11_lookInBlocks 84 = .ok (.isub, 1) := by decide +kernel
theorem dX11_lookInBlocks_85 : decode cX11_lookInBlocks 85 = .ok (.bipush 10, 2) := by decide +kernel
theorem dX11_lookInBlocks_87 : decode cX11_lookInBlocks 87 = .ok (.invokestatic 158, 3) := by decide +kernel
theorem dX11_lookInBlocks_90 : decode cX11_lookInBlocks 90 = .ok (.ifCond .eq 17, 3) := by decide +kernel
theorem dX11_lookInBlocks_93 : decode cX11_lookInBlocks 93 = .ok (.aload_n 0, 1) := by decide +kernel
theorem dX11_lookInBlocks_94 : decode cX11_lookInBlocks 94 = .ok (.getfield 28, 3) := by decide +kernel
theorem dX11_lookInBlocks_97 : decode cX11_lookInBlocks 97 = .ok (.iload_n 1, 1) := by decide +kernel
theorem dX11_lookInBlocks_98 : decode cX11_lookInBlocks 98 = .ok (.bipush 60, 2) := by decide +kernel
theorem dX11_lookInBlocks_100 : decode cX11_lookInBlocks 100 = .ok (.isub, 1) := by decide +kernel
theorem dX11_lookInBlocks_101 : decode cX11_lookInBlocks 101 = .ok (.invokevirtual 211, 3) := by decide +kernel
theorem dX11_lookInBlocks_104 : decode cX11_lookInBlocks 104 = .ok (.goto 4, 3) := by decide +kernel
theorem dX11_lookInBlocks_107 : decode cX11_lookInBlocks 107 = .ok (.iconst (-1), 1) := by decide +kernel
theorem dX11_lookInBlocks_108 : decode cX11_lookInBlocks 108 = .ok (.ireturn, 1) := by decide +kernel
theorem dX11_someWinsWith_0 : decode cX11_someWinsWith 0 = .ok (.aload_n 0, 1) := by decide +kernel
theorem dX11_someWinsWith_1 : decode cX11_someWinsWith 1 = .ok (.getfield 35, 3) := by decide +kernel
theorem dX11_someWinsWith_4 : decode cX11_someWinsWith 4 = .ok (.aload_n 0, 1) := by decide +kernel
theorem dX11_someWinsWith_5 : decode cX11_someWinsWith 5 = .ok (.getfield 49, 3) := by decide +kernel
theorem dX11_someWinsWith_8 : decode cX11_someWinsWith 8 = .ok (.getfield 79, 3) := by decide +kernel
theorem dX11_someWinsWith_11 : decode cX11_someWinsWith 11 = .ok (.iload_n 1, 1) := by decide +kernel
theorem dX11_someWinsWith_12 : decode cX11_someWinsWith 12 = .ok (.aload_n 0, 1) := by decide +kernel
theorem dX11_someWinsWith_13 : decode cX11_someWinsWith 13 = .ok (.getfield 28, 3) := by decide +kernel
theorem dX11_someWinsWith_16 : decode cX11_someWinsWith 16 = .ok (.getfield 146, 3) := by decide +kernel
theorem dX11_someWinsWith_19 : decode cX11_someWinsWith 19 = .ok (.aload_n 0, 1) := by decide +kernel
theorem dX11_someWinsWith_20 : decode cX11_someWinsWith 20 = .ok (.getfield 28, 3) := by decide +kernel
theorem dX11_someWinsWith_23 : decode cX11_someWinsWith 23 = .ok (.getfield 146, 3) := by decide +kernel
theorem dX11_someWinsWith_26 : decode cX11_someWinsWith 26 = .ok (.invokevirtual 147, 3) := by decide +kernel
theorem dX11_someWinsWith_29 : decode cX11_someWinsWith 29 = .ok (.aload_n 0, 1) := by decide +kernel
theorem dX11_someWinsWith_30 : decode cX11_someWinsWith 30 = .ok (.getfield 35, 3) := by decide +kernel
theorem dX11_someWinsWith_33 : decode cX11_someWinsWith 33 = .ok (.iconst 0, 1) := by decide +kernel
theorem dX11_someWinsWith_34 : decode cX11_someWinsWith 34 = .ok (.invokevirtual 136, 3) := by decide +kernel
theorem dX11_someWinsWith_37 : decode cX11_someWinsWith 37 = .ok (.ireturn, 1) := by decide +kernel
theorem dX11_foldToMoves_0 : decode cX11_foldToMoves 0 = .ok (.aload_n 0, 1) := by decide +kernel
theorem dX11_foldToMoves_1 : decode cX11_foldToMoves 1 = .ok (.getfield 28, 3) := by decide +kernel
theorem dX11_foldToMoves_4 : decode cX11_foldToMoves 4 = .ok (.getfield 146, 3) := by decide +kernel
theorem dX11_foldToMoves_7 : decode cX11_foldToMoves 7 = .ok (.aload_n 0, 1) := by decide +kernel
theorem dX11_foldToMoves_8 : decode cX11_foldToMoves 8 = .ok (.getfield 49, 3) := by decide +kernel
theorem dX11_foldToMoves_11 : decode cX11_foldToMoves 11 = .ok (.getfield 87, 3) := by decide +kernel
theorem dX11_foldToMoves_14 : decode cX11_foldToMoves 14 = .ok (.aload_n 0, 1) := by decide +kernel
theorem dX11_foldToMoves_15 : decode cX11_foldToMoves 15 = .ok (.getfield 28, 3) := by decide +kernel
theorem dX11_foldToMoves_18 : decode cX11_foldToMoves 18 = .ok (.getfield 118, 3) := by decide +kernel
theorem dX11_foldToMoves_21 : decode cX11_foldToMoves 21 = .ok (.invokevirtual 143, 3) := by decide +kernel
theorem dX11_foldToMoves_24 : decode cX11_foldToMoves 24 = .ok (.iadd, 1) := by decide +kernel
theorem dX11_foldToMoves_25 : decode cX11_foldToMoves 25 = .ok (.istore_n 1, 1) := by decide +kernel
theorem dX11_foldToMoves_26 : decode cX11_foldToMoves 26 = .ok (.aload_n 0, 1) := by decide +kernel
theorem dX11_foldToMoves_27 : decode cX11_foldToMoves 27 = .ok (.getfield 35, 3) := by decide +kernel
theorem dX11_foldToMoves_30 : decode cX11_foldToMoves 30 = .ok (.aload_n 0, 1) := by decide +kernel
theorem dX11_foldToMoves_31 : decode cX11_foldToMoves 31 = .ok (.getfield 49, 3) := by decide +kernel
theorem dX11_foldToMoves_34 : decode cX11_foldToMoves 34 = .ok (.getfield 87, 3) := by decide +kernel
theorem dX11_foldToMoves_37 : decode cX11_foldToMoves 37 = .ok (.invokevirtual 108, 3) := by decide +kernel
theorem dX11_foldToMoves_40 : decode cX11_foldToMoves 40 = .ok (.aload_n 0, 1) := by decide +kernel
theorem dX11_foldToMoves_41 : decode cX11_foldToMoves 41 = .ok (.getfield 35, 3) := by decide +kernel
theorem dX11_foldToMoves_44 : decode cX11_foldToMoves 44 = .ok (.aload_n 0, 1) := by decide +kernel
theorem dX11_foldToMoves_45 : decode cX11_foldToMoves 45 = .ok (.getfield 49, 3) := by decide +kernel
theorem dX11_foldToMoves_48 : decode cX11_foldToMoves 48 = .ok (.getfield 79, 3) := by decide +kernel
theorem dX11_foldToMoves_51 : decode cX11_foldToMoves 51 = .ok (.aload_n 0, 1) := by decide +kernel
theorem dX11_foldToMoves_52 : decode cX11_foldToMoves 52 = .ok (.getfield 28, 3) := by decide +kernel
theorem dX11_foldToMoves_55 : decode cX11_foldToMoves 55 = .ok (.getfield 112, 3) := by decide +kernel
theorem dX11_foldToMoves_58 : decode cX11_foldToMoves 58 = .ok (.aload_n 0, 1) := by decide +kernel
theorem dX11_foldToMoves_59 : decode cX11_foldToMoves 59 = .ok (.getfield 28, 3) := by decide +kernel
theorem dX11_foldToMoves_62 : decode cX11_foldToMoves 62 = .ok (.getfield 146, 3) := by decide +kernel
theorem dX11_foldToMoves_65 : decode cX11_foldToMoves 65 = .ok (.iload_n 1, 1) := by decide +kernel
theorem dX11_foldToMoves_66 : decode cX11_foldToMoves 66 = .ok (.invokevirtual 147, 3) := by decide +kernel
theorem dX11_foldToMoves_69 : decode cX11_foldToMoves 69 = .ok (.return_, 1) := by decide +kernel
theorem dX11_allPlayed_0 : decode cX11_allPlayed 0 = .ok (.aload_n 0, 1) := by decide +kernel
theorem dX11_allPlayed_1 : decode cX11_allPlayed 1 = .ok (.getfield 28, 3) := by decide +kernel
theorem dX11_allPlayed_4 : decode cX11_allPlayed 4 = .ok (.getfield 118, 3) := by decide +kernel
theorem dX11_allPlayed_7 : decode cX11_allPlayed 7 = .ok (.aload_n 0, 1) := by decide +kernel
theorem dX11_allPlayed_8 : decode cX11_allPlayed 8 = .ok (.getfield 49, 3) := by decide +kernel
theorem dX11_allPlayed_11 : decode cX11_allPlayed 11 = .ok (.getfield 87, 3) := by decide +kernel
theorem dX11_allPlayed_14 : decode cX11_allPlayed 14 = .ok (.getfield 105, 3) := by decide +kernel
theorem dX11_allPlayed_17 : decode cX11_allPlayed 17 = .ok (.if_icmp .lt 7, 3) := by decide +kernel
theorem dX11_allPlayed_20 : decode cX11_allPlayed 20 = .ok (.iconst 1, 1) := by decide +kernel
theorem dX11_allPlayed_21 : decode cX11_allPlayed 21 = .ok (.goto 4, 3) := by decide +kernel
theorem dX11_allPlayed_24 : decode cX11_allPlayed 24 = .ok (.iconst 0, 1) := by decide +kernel
theorem dX11_allPlayed_25 : decode cX11_allPlayed 25 = .ok (.ireturn, 1) := by decide +kernel
theorem dX11_countOfMoves_0 : decode cX11_countOfMoves 0 = .ok (.aload_n 0, 1) := by decide +kernel
theorem dX11_countOfMoves_1 : decode cX11_countOfMoves 1 = .ok (.invokevirtual 123, 3) := by decide +kernel
theorem dX11_countOfMoves_4 : decode cX11_countOfMoves 4 = .ok (.ifCond .eq 7, 3) := by decide +kernel
theorem dX11_countOfMoves_7 : decode cX11_countOfMoves 7 = .ok (.iconst 0, 1) := by decide +kernel
theorem dX11_countOfMoves_8 : decode cX11_countOfMoves 8 = .ok (.goto 22, 3) := by decide +kernel
theorem dX11_countOfMoves_11 : decode cX11_countOfMoves 11 = .ok (.iconst 1, 1) := by decide +kernel
theorem dX11_countOfMoves_12 : decode cX11_countOfMoves 12 = .ok (.aload_n 0, 1) := by decide +kernel
theorem dX11_countOfMoves_13 : decode cX11_countOfMoves 13 = .ok (.getfield 49, 3) := by decide +kernel
theorem dX11_countOfMoves_16 : decode cX11_countOfMoves 16 = .ok (.getfield 87, 3) := by decide +kernel
theorem dX11_countOfMoves_19 : decode cX11_countOfMoves 19 = .ok (.aload_n 0, 1) := by decide +kernel
theorem dX11_countOfMoves_20 : decode cX11_countOfMoves 20 = .ok (.getfield 28, 3) := by decide +kernel
theorem dX11_countOfMoves_23 : decode cX11_countOfMoves 23 = .ok (.getfield 118, 3) := by decide +kernel
theorem dX11_countOfMoves_26 : decode cX11_countOfMoves 26 = .ok (.invokevirtual 143, 3) := by decide +kernel
theorem dX11_countOfMoves_29 : decode cX11_countOfMoves 29 = .ok (.ishl, 1) := by decide +kernel
theorem dX11_countOfMoves_30 : decode cX11_countOfMoves 30 = .ok (.ireturn, 1) := by decide +kernel
theorem dX11_isMove_0 : decode cX11_isMove 0 = .ok (.iload_n 1, 1) := by decide +kernel
theorem dX11_isMove_1 : decode cX11_isMove 1 = .ok (.aload_n 0, 1) := by decide +kernel
theorem dX11_isMove_2 : decode cX11_isMove 2 = .ok (.invokevirtual 127, 3) := by decide +kernel
theorem dX11_isMove_5 : decode cX11_isMove 5 = .ok (.invokestatic 158, 3) := by decide +kernel
theorem dX11_isMove_8 : decode cX11_isMove 8 = .ok (.ireturn, 1) := by decide +kernel
theorem dX11_wishedValue_0 : decode cX11_wishedValue 0 = .ok (.aload_n 0, 1) := by decide +kernel
theorem dX11_wishedValue_1 : decode cX11_wishedValue 1 = .ok (.getfield 49, 3) := by decide +kernel
theorem dX11_wishedValue_4 : decode cX11_wishedValue 4 = .ok (.getfield 87, 3) := by decide +kernel
theorem dX11_wishedValue_7 : decode cX11_wishedValue 7 = .ok (.aload_n 0, 1) := by decide +kernel
theorem dX11_wishedValue_8 : decode cX11_wishedValue 8 = .ok (.getfield 28, 3) := by decide +kernel
theorem dX11_wishedValue_11 : decode cX11_wishedValue 11 = .ok (.getfield 118, 3) := by decide +kernel
theorem dX11_wishedValue_14 : decode cX11_wishedValue 14 = .ok (.invokevirtual 120, 3) := by decide +kernel
theorem dX11_wishedValue_17 : decode cX11_wishedValue 17 = .ok (.ifCond .ne 7, 3) := by decide +kernel
theorem dX11_wishedValue_20 : decode cX11_wishedValue 20 = .ok (.iconst 1, 1) := by decide +kernel
theorem dX11_wishedValue_21 : decode cX11_wishedValue 21 = .ok (.goto 4, 3) := by decide +kernel
theorem dX11_wishedValue_24 : decode cX11_wishedValue 24 = .ok (.iconst 0, 1) := by decide +kernel
theorem dX11_wishedValue_25 : decode cX11_wishedValue 25 = .ok (.ireturn, 1) := by decide +kernel
theorem dX11_within_0 : decode cX11_within 0 = .ok (.iload_n 0, 1) := by decide +kernel
theorem dX11_within_1 : decode cX11_within 1 = .ok (.ifCond .lt 12, 3) := by decide +kernel
theorem dX11_within_4 : decode cX11_within 4 = .ok (.iload_n 0, 1) := by decide +kernel
theorem dX11_within_5 : decode cX11_within 5 = .ok (.iload_n 1, 1) := by decide +kernel
theorem dX11_within_6 : decode cX11_within 6 = .ok (.if_icmp .ge 7, 3) := by decide +kernel
theorem dX11_within_9 : decode cX11_within 9 = .ok (.iconst 1, 1) := by decide +kernel
theorem dX11_within_10 : decode cX11_within 10 = .ok (.goto 4, 3) := by decide +kernel
theorem dX11_within_13 : decode cX11_within 13 = .ok (.iconst 0, 1) := by decide +kernel
theorem dX11_within_14 : decode cX11_within 14 = .ok (.ireturn, 1) := by decide +kernel
theorem dX11_levelOf_0 : decode cX11_levelOf 0 = .ok (.iload_n 0, 1) := by decide +kernel
theorem dX11_levelOf_1 : decode cX11_levelOf 1 = .ok (.lookupswitch 72 #[(33, 69), (38, 67), (61, 59), (62, 61), (94, 65), (124, 63)], 59) := by decide +kernel
theorem dX11_levelOf_60 : decode cX11_levelOf 60 = .ok (.iconst 1, 1) := by decide +kernel
theorem dX11_levelOf_61 : decode cX11_levelOf 61 = .ok (.ireturn, 1) := by decide +kernel
theorem dX11_levelOf_62 : decode cX11_levelOf 62 = .ok (.iconst 2, 1) := by decide +kernel
theorem dX11_levelOf_63 : decode cX11_levelOf 63 = .ok (.ireturn, 1) := by decide +kernel
theorem dX11_levelOf_64 : decode cX11_levelOf 64 = .ok (.iconst 3, 1) := by decide +kernel
theorem dX11_levelOf_65 : decode cX11_levelOf 65 = .ok (.ireturn, 1) := by decide +kernel
theorem dX11_levelOf_66 : decode cX11_levelOf 66 = .ok (.iconst 4, 1) := by decide +kernel
theorem dX11_levelOf_67 : decode cX11_levelOf 67 = .ok (.ireturn, 1) := by decide +kernel
theorem dX11_levelOf_68 : decode cX11_levelOf 68 = .ok (.iconst 5, 1) := by decide +kernel
theorem dX11_levelOf_69 : decode cX11_levelOf 69 = .ok (.ireturn, 1) := by decide +kernel
theorem dX11_levelOf_70 : decode cX11_levelOf 70 = .ok (.bipush 6, 2) := by decide +kernel
theorem dX11_levelOf_72 : decode cX11_levelOf 72 = .ok (.ireturn, 1) := by decide +kernel
theorem dX11_levelOf_73 : decode cX11_levelOf 73 = .ok (.iconst 0, 1) := by decide +kernel
theorem dX11_levelOf_74 : decode cX11_levelOf 74 = .ok (.ireturn, 1) := by decide +kernel
theorem dX11_tableWords_0 : decode cX11_tableWords 0 = .ok (.iload_n 0, 1) := by decide +kernel
theorem dX11_tableWords_1 : decode cX11_tableWords 1 = .ok (.bipush 6, 2) := by decide +kernel
theorem dX11_tableWords_3 : decode cX11_tableWords 3 = .ok (.if_icmp .le 12, 3) := by decide +kernel
theorem dX11_tableWords_6 : decode cX11_tableWords 6 = .ok (.iconst 1, 1) := by decide +kernel
theorem dX11_tableWords_7 : decode cX11_tableWords 7 = .ok (.iload_n 0, 1) := by decide +kernel
theorem dX11_tableWords_8 : decode cX11_tableWords 8 = .ok (.bipush 6, 2) := by decide +kernel
theorem dX11_tableWords_10 : decode cX11_tableWords 10 = .ok (.isub, 1) := by decide +kernel
theorem dX11_tableWords_11 : decode cX11_tableWords 11 = .ok (.ishl, 1) := by decide +kernel
theorem dX11_tableWords_12 : decode cX11_tableWords 12 = .ok (.goto 4, 3) := by decide +kernel
theorem dX11_tableWords_15 : decode cX11_tableWords 15 = .ok (.iconst 1, 1) := by decide +kernel
theorem dX11_tableWords_16 : decode cX11_tableWords 16 = .ok (.ireturn, 1) := by decide +kernel
theorem dX12_init_0 : decode cX12_init 0 = .ok (.aload_n 0, 1) := by decide +kernel
theorem dX12_init_1 : decode cX12_init 1 = .ok (.invokespecial 1, 3) := by decide +kernel
theorem dX12_init_4 : decode cX12_init 4 = .ok (.aload_n 0, 1) := by decide +kernel
theorem dX12_init_5 : decode cX12_init 5 = .ok (.sipush 600, 3) := by decide +kernel
theorem dX12_init_8 : decode cX12_init 8 = .ok (.newarray .byte, 2) := by decide +kernel
theorem dX12_init_10 : decode cX12_init 10 = .ok (.putfield 7, 3) := by decide +kernel
theorem dX12_init_13 : decode cX12_init 13 = .ok (.aload_n 0, 1) := by decide +kernel
theorem dX12_init_14 : decode cX12_init 14 = .ok (.sipush 601, 3) := by decide +kernel
theorem dX12_init_17 : decode cX12_init 17 = .ok (.newarray .byte, 2) := by decide +kernel
theorem dX12_init_19 : decode cX12_init 19 = .ok (.putfield 13, 3) := by decide +kernel
theorem dX12_init_22 : decode cX12_init 22 = .ok (.aload_n 0, 1) := by decide +kernel
theorem dX12_init_23 : decode cX12_init 23 = .ok (.iconst (-1), 1) := by decide +kernel
theorem dX12_init_24 : decode cX12_init 24 = .ok (.putfield 16, 3) := by decide +kernel
theorem dX12_init_27 : decode cX12_init 27 = .ok (.aload_n 0, 1) := by decide +kernel
theorem dX12_init_28 : decode cX12_init 28 = .ok (.bipush 12, 2) := by decide +kernel
theorem dX12_init_30 : decode cX12_init 30 = .ok (.newarray .int, 2) := by decide +kernel
theorem dX12_init_32 : decode cX12_init 32 = .ok (.putfield 20, 3) := by decide +kernel
theorem dX12_init_35 : decode cX12_init 35 = .ok (.aload_n 0, 1) := by decide +kernel
theorem dX12_init_36 : decode cX12_init 36 = .ok (.bipush 12, 2) := by decide +kernel
theorem dX12_init_38 : decode cX12_init 38 = .ok (.newarray .int, 2) := by decide +kernel
theorem dX12_init_40 : decode cX12_init 40 = .ok (.putfield 24, 3) := by decide +kernel
theorem dX12_init_43 : decode cX12_init 43 = .ok (.aload_n 0, 1) := by decide +kernel
theorem dX12_init_44 : decode cX12_init 44 = .ok (.bipush 6, 2) := by decide +kernel
theorem dX12_init_46 : decode cX12_init 46 = .ok (.newarray .int, 2) := by decide +kernel
theorem dX12_init_48 : decode cX12_init 48 = .ok (.putfield 27, 3) := by decide +kernel
theorem dX12_init_51 : decode cX12_init 51 = .ok (.aload_n 0, 1) := by decide +kernel
theorem dX12_init_52 : decode cX12_init 52 = .ok (.bipush 6, 2) := by decide +kernel
theorem dX12_init_54 : decode cX12_init 54 = .ok (.newarray .boolean, 2) := by decide +kernel
theorem dX12_init_56 : decode cX12_init 56 = .ok (.putfield 30, 3) := by decide +kernel
theorem dX12_init_59 : decode cX12_init 59 = .ok (.aload_n 0, 1) := by decide +kernel
theorem dX12_init_60 : decode cX12_init 60 = .ok (.sipush 161, 3) := by decide +kernel
theorem dX12_init_63 : decode cX12_init 63 = .ok (.newarray .int, 2) := by decide +kernel
theorem dX12_init_65 : decode cX12_init 65 = .ok (.putfield 34, 3) := by decide +kernel
theorem dX12_init_68 : decode cX12_init 68 = .ok (.aload_n 0, 1) := by decide +kernel
theorem dX12_init_69 : decode cX12_init 69 = .ok (.sipush 161, 3) := by decide +kernel
theorem dX12_init_72 : decode cX12_init 72 = .ok (.newarray .int, 2) := by decide +kernel
theorem dX12_init_74 : decode cX12_init 74 = .ok (.putfield 37, 3) := by decide +kernel
theorem dX12_init_77 : decode cX12_init 77 = .ok (.aload_n 0, 1) := by decide +kernel
theorem dX12_init_78 : decode cX12_init 78 = .ok (.sipush 161, 3) := by decide +kernel
theorem dX12_init_81 : decode cX12_init 81 = .ok (.newarray .int, 2) := by decide +kernel
theorem dX12_init_83 : decode cX12_init 83 = .ok (.putfield 40, 3) := by decide +kernel
theorem dX12_init_86 : decode cX12_init 86 = .ok (.aload_n 0, 1) := by decide +kernel
theorem dX12_init_87 : decode cX12_init 87 = .ok (.bipush 12, 2) := by decide +kernel
theorem dX12_init_89 : decode cX12_init 89 = .ok (.newarray .int, 2) := by decide +kernel
theorem dX12_init_91 : decode cX12_init 91 = .ok (.putfield 43, 3) := by decide +kernel
theorem dX12_init_94 : decode cX12_init 94 = .ok (.aload_n 0, 1) := by decide +kernel
theorem dX12_init_95 : decode cX12_init 95 = .ok (.bipush 12, 2) := by decide +kernel
theorem dX12_init_97 : decode cX12_init 97 = .ok (.newarray .int, 2) := by decide +kernel
theorem dX12_init_99 : decode cX12_init 99 = .ok (.putfield 46, 3) := by decide +kernel
theorem dX12_init_102 : decode cX12_init 102 = .ok (.aload_n 0, 1) := by decide +kernel
theorem dX12_init_103 : decode cX12_init 103 = .ok (.bipush 6, 2) := by decide +kernel
theorem dX12_init_105 : decode cX12_init 105 = .ok (.newarray .int, 2) := by decide +kernel
theorem dX12_init_107 : decode cX12_init 107 = .ok (.putfield 49, 3) := by decide +kernel
theorem dX12_init_110 : decode cX12_init 110 = .ok (.aload_n 0, 1) := by decide +kernel
theorem dX12_init_111 : decode cX12_init 111 = .ok (.bipush 6, 2) := by decide +kernel
theorem dX12_init_113 : decode cX12_init 113 = .ok (.newarray .boolean, 2) := by decide +kernel
theorem dX12_init_115 : decode cX12_init 115 = .ok (.putfield 52, 3) := by decide +kernel
theorem dX12_init_118 : decode cX12_init 118 = .ok (.aload_n 0, 1) := by decide +kernel
theorem dX12_init_119 : decode cX12_init 119 = .ok (.sipush 161, 3) := by decide +kernel
theorem dX12_init_122 : decode cX12_init 122 = .ok (.newarray .int, 2) := by decide +kernel
theorem dX12_init_124 : decode cX12_init 124 = .ok (.putfield 55, 3) := by decide +kernel
theorem dX12_init_127 : decode cX12_init 127 = .ok (.aload_n 0, 1) := by decide +kernel
theorem dX12_init_128 : decode cX12_init 128 = .ok (.sipush 161, 3) := by decide +kernel

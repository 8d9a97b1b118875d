theorem dX7_side_65 : decode cX7_side 65 = .ok (.getfield 26, 3) := by decide +kernel
theorem dX7_side_68 : decode cX7_side 68 = .ok (.iload_n 1, 1) := by decide +kernel
theorem dX7_side_69 : decode cX7_side 69 = .ok (.invokevirtual 115, 3) := by decide +kernel
theorem dX7_side_72 : decode cX7_side 72 = .ok (.ireturn, 1) := by decide +kernel
theorem dX7_side_73 : decode cX7_side 73 = .ok (.aload_n 0, 1) := by decide +kernel
theorem dX7_side_74 : decode cX7_side 74 = .ok (.getfield 26, 3) := by decide +kernel
theorem dX7_side_77 : decode cX7_side 77 = .ok (.iload_n 1, 1) := by decide +kernel
theorem dX7_side_78 : decode cX7_side 78 = .ok (.invokevirtual 119, 3) := by decide +kernel
theorem dX7_side_81 : decode cX7_side 81 = .ok (.ireturn, 1) := by decide +kernel
theorem dX7_side_82 : decode cX7_side 82 = .ok (.iload_n 2, 1) := by decide +kernel
theorem dX7_side_83 : decode cX7_side 83 = .ok (.bipush 10, 2) := by decide +kernel
theorem dX7_side_85 : decode cX7_side 85 = .ok (.if_icmp .lt 32, 3) := by decide +kernel
theorem dX7_side_88 : decode cX7_side 88 = .ok (.iload_n 2, 1) := by decide +kernel
theorem dX7_side_89 : decode cX7_side 89 = .ok (.bipush 10, 2) := by decide +kernel
theorem dX7_side_91 : decode cX7_side 91 = .ok (.aload_n 0, 1) := by decide +kernel
theorem dX7_side_92 : decode cX7_side 92 = .ok (.getfield 26, 3) := by decide +kernel
theorem dX7_side_95 : decode cX7_side 95 = .ok (.getfield 104, 3) := by decide +kernel
theorem dX7_side_98 : decode cX7_side 98 = .ok (.iadd, 1) := by decide +kernel
theorem dX7_side_99 : decode cX7_side 99 = .ok (.if_icmp .ge 18, 3) := by decide +kernel
theorem dX7_side_102 : decode cX7_side 102 = .ok (.aload_n 0, 1) := by decide +kernel
theorem dX7_side_103 : decode cX7_side 103 = .ok (.getfield 26, 3) := by decide +kernel
theorem dX7_side_106 : decode cX7_side 106 = .ok (.iload_n 1, 1) := by decide +kernel
theorem dX7_side_107 : decode cX7_side 107 = .ok (.iload_n 2, 1) := by decide +kernel
theorem dX7_side_108 : decode cX7_side 108 = .ok (.bipush 10, 2) := by decide +kernel
theorem dX7_side_110 : decode cX7_side 110 = .ok (.isub, 1) := by decide +kernel
theorem dX7_side_111 : decode cX7_side 111 = .ok (.invokevirtual 122, 3) := by decide +kernel
theorem dX7_side_114 : decode cX7_side 114 = .ok (.goto 5, 3) := by decide +kernel
theorem dX7_side_117 : decode cX7_side 117 = .ok (.ldc 110, 2) := by decide +kernel
theorem dX7_side_119 : decode cX7_side 119 = .ok (.ireturn, 1) := by decide +kernel
theorem dX7_kick_0 : decode cX7_kick 0 = .ok (.aload_n 0, 1) := by decide +kernel
theorem dX7_kick_1 : decode cX7_kick 1 = .ok (.getfield 26, 3) := by decide +kernel
theorem dX7_kick_4 : decode cX7_kick 4 = .ok (.getfield 104, 3) := by decide +kernel
theorem dX7_kick_7 : decode cX7_kick 7 = .ok (.ifCond .ne 6, 3) := by decide +kernel
theorem dX7_kick_10 : decode cX7_kick 10 = .ok (.bipush (-2), 2) := by decide +kernel
theorem dX7_kick_12 : decode cX7_kick 12 = .ok (.ireturn, 1) := by decide +kernel
theorem dX7_kick_13 : decode cX7_kick 13 = .ok (.aload_n 0, 1) := by decide +kernel
theorem dX7_kick_14 : decode cX7_kick 14 = .ok (.getfield 26, 3) := by decide +kernel
theorem dX7_kick_17 : decode cX7_kick 17 = .ok (.invokevirtual 126, 3) := by decide +kernel
theorem dX7_kick_20 : decode cX7_kick 20 = .ok (.ifCond .ne 6, 3) := by decide +kernel
theorem dX7_kick_23 : decode cX7_kick 23 = .ok (.bipush (-3), 2) := by decide +kernel
theorem dX7_kick_25 : decode cX7_kick 25 = .ok (.ireturn, 1) := by decide +kernel
theorem dX7_kick_26 : decode cX7_kick 26 = .ok (.aload_n 0, 1) := by decide +kernel
theorem dX7_kick_27 : decode cX7_kick 27 = .ok (.invokevirtual 130, 3) := by decide +kernel
theorem dX7_kick_30 : decode cX7_kick 30 = .ok (.aload_n 0, 1) := by decide +kernel
theorem dX7_kick_31 : decode cX7_kick 31 = .ok (.getfield 26, 3) := by decide +kernel
theorem dX7_kick_34 : decode cX7_kick 34 = .ok (.invokevirtual 133, 3) := by decide +kernel
theorem dX7_kick_37 : decode cX7_kick 37 = .ok (.istore_n 2, 1) := by decide +kernel
theorem dX7_kick_38 : decode cX7_kick 38 = .ok (.aload_n 0, 1) := by decide +kernel
theorem dX7_kick_39 : decode cX7_kick 39 = .ok (.getfield 26, 3) := by decide +kernel
theorem dX7_kick_42 : decode cX7_kick 42 = .ok (.iload_n 1, 1) := by decide +kernel
theorem dX7_kick_43 : decode cX7_kick 43 = .ok (.invokevirtual 136, 3) := by decide +kernel
theorem dX7_kick_46 : decode cX7_kick 46 = .ok (.aload_n 0, 1) := by decide +kernel
theorem dX7_kick_47 : decode cX7_kick 47 = .ok (.getfield 26, 3) := by decide +kernel
theorem dX7_kick_50 : decode cX7_kick 50 = .ok (.iload_n 2, 1) := by decide +kernel
theorem dX7_kick_51 : decode cX7_kick 51 = .ok (.invokevirtual 115, 3) := by decide +kernel
theorem dX7_kick_54 : decode cX7_kick 54 = .ok (.ireturn, 1) := by decide +kernel
theorem dX7_play_0 : decode cX7_play 0 = .ok (.aload_n 0, 1) := by decide +kernel
theorem dX7_play_1 : decode cX7_play 1 = .ok (.getfield 26, 3) := by decide +kernel
theorem dX7_play_4 : decode cX7_play 4 = .ok (.getfield 104, 3) := by decide +kernel
theorem dX7_play_7 : decode cX7_play 7 = .ok (.ifCond .ne 8, 3) := by decide +kernel
theorem dX7_play_10 : decode cX7_play 10 = .ok (.bipush (-2), 2) := by decide +kernel
theorem dX7_play_12 : decode cX7_play 12 = .ok (.goto 7, 3) := by decide +kernel
theorem dX7_play_15 : decode cX7_play 15 = .ok (.aload_n 0, 1) := by decide +kernel
theorem dX7_play_16 : decode cX7_play 16 = .ok (.invokevirtual 140, 3) := by decide +kernel
theorem dX7_play_19 : decode cX7_play 19 = .ok (.istore_n 1, 1) := by decide +kernel
theorem dX7_play_20 : decode cX7_play 20 = .ok (.aload_n 0, 1) := by decide +kernel
theorem dX7_play_21 : decode cX7_play 21 = .ok (.getfield 22, 3) := by decide +kernel
theorem dX7_play_24 : decode cX7_play 24 = .ok (.iconst 0, 1) := by decide +kernel
theorem dX7_play_25 : decode cX7_play 25 = .ok (.putfield 82, 3) := by decide +kernel
theorem dX7_play_28 : decode cX7_play 28 = .ok (.iload_n 1, 1) := by decide +kernel
theorem dX7_play_29 : decode cX7_play 29 = .ok (.ireturn, 1) := by decide +kernel
theorem dX7_judge_0 : decode cX7_judge 0 = .ok (.aload_n 0, 1) := by decide +kernel
theorem dX7_judge_1 : decode cX7_judge 1 = .ok (.getfield 26, 3) := by decide +kernel
theorem dX7_judge_4 : decode cX7_judge 4 = .ok (.getfield 104, 3) := by decide +kernel
theorem dX7_judge_7 : decode cX7_judge 7 = .ok (.ifCond .ne 8, 3) := by decide +kernel
theorem dX7_judge_10 : decode cX7_judge 10 = .ok (.bipush (-2), 2) := by decide +kernel
theorem dX7_judge_12 : decode cX7_judge 12 = .ok (.goto 7, 3) := by decide +kernel
theorem dX7_judge_15 : decode cX7_judge 15 = .ok (.aload_n 0, 1) := by decide +kernel
theorem dX7_judge_16 : decode cX7_judge 16 = .ok (.invokevirtual 143, 3) := by decide +kernel
theorem dX7_judge_19 : decode cX7_judge 19 = .ok (.istore_n 1, 1) := by decide +kernel
theorem dX7_judge_20 : decode cX7_judge 20 = .ok (.aload_n 0, 1) := by decide +kernel
theorem dX7_judge_21 : decode cX7_judge 21 = .ok (.getfield 22, 3) := by decide +kernel
theorem dX7_judge_24 : decode cX7_judge 24 = .ok (.iconst 0, 1) := by decide +kernel
theorem dX7_judge_25 : decode cX7_judge 25 = .ok (.putfield 82, 3) := by decide +kernel
theorem dX7_judge_28 : decode cX7_judge 28 = .ok (.iload_n 1, 1) := by decide +kernel
theorem dX7_judge_29 : decode cX7_judge 29 = .ok (.ireturn, 1) := by decide +kernel
theorem dX7_judged_0 : decode cX7_judged 0 = .ok (.aload_n 0, 1) := by decide +kernel
theorem dX7_judged_1 : decode cX7_judged 1 = .ok (.getfield 146, 3) := by decide +kernel
theorem dX7_judged_4 : decode cX7_judged 4 = .ok (.ifCond .eq 25, 3) := by decide +kernel
theorem dX7_judged_7 : decode cX7_judged 7 = .ok (.iload_n 1, 1) := by decide +kernel
theorem dX7_judged_8 : decode cX7_judged 8 = .ok (.ifCond .lt 21, 3) := by decide +kernel
theorem dX7_judged_11 : decode cX7_judged 11 = .ok (.iload_n 1, 1) := by decide +kernel
theorem dX7_judged_12 : decode cX7_judged 12 = .ok (.aload_n 0, 1) := by decide +kernel
theorem dX7_judged_13 : decode cX7_judged 13 = .ok (.getfield 72, 3) := by decide +kernel
theorem dX7_judged_16 : decode cX7_judged 16 = .ok (.arraylength, 1) := by decide +kernel
theorem dX7_judged_17 : decode cX7_judged 17 = .ok (.if_icmp .ge 12, 3) := by decide +kernel
theorem dX7_judged_20 : decode cX7_judged 20 = .ok (.aload_n 0, 1) := by decide +kernel
theorem dX7_judged_21 : decode cX7_judged 21 = .ok (.getfield 72, 3) := by decide +kernel
theorem dX7_judged_24 : decode cX7_judged 24 = .ok (.iload_n 1, 1) := by decide +kernel
theorem dX7_judged_25 : decode cX7_judged 25 = .ok (.iaload, 1) := by decide +kernel
theorem dX7_judged_26 : decode cX7_judged 26 = .ok (.goto 4, 3) := by decide +kernel
theorem dX7_judged_29 : decode cX7_judged 29 = .ok (.iconst (-1), 1) := by decide +kernel
theorem dX7_judged_30 : decode cX7_judged 30 = .ok (.ireturn, 1) := by decide +kernel
theorem dX7_exchange_0 : decode cX7_exchange 0 = .ok (.iload_n 2, 1) := by decide +kernel
theorem dX7_exchange_1 : decode cX7_exchange 1 = .ok (.iload_n 3, 1) := by decide +kernel
theorem dX7_exchange_2 : decode cX7_exchange 2 = .ok (.if_icmp .ne 5, 3) := by decide +kernel
theorem dX7_exchange_5 : decode cX7_exchange 5 = .ok (.iconst (-1), 1) := by decide +kernel
theorem dX7_exchange_6 : decode cX7_exchange 6 = .ok (.ireturn, 1) := by decide +kernel
theorem dX7_exchange_7 : decode cX7_exchange 7 = .ok (.aload_n 0, 1) := by decide +kernel
theorem dX7_exchange_8 : decode cX7_exchange 8 = .ok (.iload_n 1, 1) := by decide +kernel
theorem dX7_exchange_9 : decode cX7_exchange 9 = .ok (.invokevirtual 107, 3) := by decide +kernel
theorem dX7_exchange_12 : decode cX7_exchange 12 = .ok (.ifCond .eq 19, 3) := by decide +kernel
theorem dX7_exchange_15 : decode cX7_exchange 15 = .ok (.aload_n 0, 1) := by decide +kernel
theorem dX7_exchange_16 : decode cX7_exchange 16 = .ok (.iload_n 2, 1) := by decide +kernel
theorem dX7_exchange_17 : decode cX7_exchange 17 = .ok (.invokevirtual 149, 3) := by decide +kernel
theorem dX7_exchange_20 : decode cX7_exchange 20 = .ok (.ifCond .eq 11, 3) := by decide +kernel
theorem dX7_exchange_23 : decode cX7_exchange 23 = .ok (.aload_n 0, 1) := by decide +kernel
theorem dX7_exchange_24 : decode cX7_exchange 24 = .ok (.iload_n 3, 1) := by decide +kernel
theorem dX7_exchange_25 : decode cX7_exchange 25 = .ok (.invokevirtual 149, 3) := by decide +kernel
theorem dX7_exchange_28 : decode cX7_exchange 28 = .ok (.ifCond .ne 6, 3) := by decide +kernel
theorem dX7_exchange_31 : decode cX7_exchange 31 = .ok (.bipush (-2), 2) := by decide +kernel
theorem dX7_exchange_33 : decode cX7_exchange 33 = .ok (.ireturn, 1) := by decide +kernel
theorem dX7_exchange_34 : decode cX7_exchange 34 = .ok (.aload_n 0, 1) := by decide +kernel
theorem dX7_exchange_35 : decode cX7_exchange 35 = .ok (.getfield 26, 3) := by decide +kernel
theorem dX7_exchange_38 : decode cX7_exchange 38 = .ok (.getfield 152, 3) := by decide +kernel
theorem dX7_exchange_41 : decode cX7_exchange 41 = .ok (.ifCond .le 6, 3) := by decide +kernel
theorem dX7_exchange_44 : decode cX7_exchange 44 = .ok (.bipush (-3), 2) := by decide +kernel
theorem dX7_exchange_46 : decode cX7_exchange 46 = .ok (.ireturn, 1) := by decide +kernel
theorem dX7_exchange_47 : decode cX7_exchange 47 = .ok (.aload_n 0, 1) := by decide +kernel
theorem dX7_exchange_48 : decode cX7_exchange 48 = .ok (.invokevirtual 130, 3) := by decide +kernel
theorem dX7_exchange_51 : decode cX7_exchange 51 = .ok (.aload_n 0, 1) := by decide +kernel
theorem dX7_exchange_52 : decode cX7_exchange 52 = .ok (.getfield 26, 3) := by decide +kernel
theorem dX7_exchange_55 : decode cX7_exchange 55 = .ok (.iload_n 1, 1) := by decide +kernel
theorem dX7_exchange_56 : decode cX7_exchange 56 = .ok (.iload_n 2, 1) := by decide +kernel
theorem dX7_exchange_57 : decode cX7_exchange 57 = .ok (.invokevirtual 122, 3) := by decide +kernel
theorem dX7_exchange_60 : decode cX7_exchange 60 = .ok (.istore 4, 2) := by decide +kernel
theorem dX7_exchange_62 : decode cX7_exchange 62 = .ok (.aload_n 0, 1) := by decide +kernel
theorem dX7_exchange_63 : decode cX7_exchange 63 = .ok (.getfield 26, 3) := by decide +kernel
theorem dX7_exchange_66 : decode cX7_exchange 66 = .ok (.iload_n 1, 1) := by decide +kernel
theorem dX7_exchange_67 : decode cX7_exchange 67 = .ok (.iload_n 2, 1) := by decide +kernel
theorem dX7_exchange_68 : decode cX7_exchange 68 = .ok (.aload_n 0, 1) := by decide +kernel
theorem dX7_exchange_69 : decode cX7_exchange 69 = .ok (.getfield 26, 3) := by decide +kernel
theorem dX7_exchange_72 : decode cX7_exchange 72 = .ok (.iload_n 1, 1) := by decide +kernel
theorem dX7_exchange_73 : decode cX7_exchange 73 = .ok (.iload_n 3, 1) := by decide +kernel
theorem dX7_exchange_74 : decode cX7_exchange 74 = .ok (.invokevirtual 122, 3) := by decide +kernel
theorem dX7_exchange_77 : decode cX7_exchange 77 = .ok (.invokevirtual 155, 3) := by decide +kernel
theorem dX7_exchange_80 : decode cX7_exchange 80 = .ok (.aload_n 0, 1) := by decide +kernel
theorem dX7_exchange_81 : decode cX7_exchange 81 = .ok (.getfield 26, 3) := by decide +kernel
theorem dX7_exchange_84 : decode cX7_exchange 84 = .ok (.iload_n 1, 1) := by decide +kernel
theorem dX7_exchange_85 : decode cX7_exchange 85 = .ok (.iload_n 3, 1) := by decide +kernel
theorem dX7_exchange_86 : decode cX7_exchange 86 = .ok (.iload 4, 2) := by decide +kernel
theorem dX7_exchange_88 : decode cX7_exchange 88 = .ok (.invokevirtual 155, 3) := by decide +kernel
theorem dX7_exchange_91 : decode cX7_exchange 91 = .ok (.aload_n 0, 1) := by decide +kernel
theorem dX7_exchange_92 : decode cX7_exchange 92 = .ok (.getfield 26, 3) := by decide +kernel
theorem dX7_exchange_95 : decode cX7_exchange 95 = .ok (.iload_n 1, 1) := by decide +kernel
theorem dX7_exchange_96 : decode cX7_exchange 96 = .ok (.iload_n 2, 1) := by decide +kernel
theorem dX7_exchange_97 : decode cX7_exchange 97 = .ok (.invokevirtual 122, 3) := by decide +kernel
theorem dX7_exchange_100 : decode cX7_exchange 100 = .ok (.ireturn, 1) := by decide +kernel
theorem dX7_order_0 : decode cX7_order 0 = .ok (.iload_n 1, 1) := by decide +kernel
theorem dX7_order_1 : decode cX7_order 1 = .ok (.invokestatic 159, 3) := by decide +kernel
theorem dX7_order_4 : decode cX7_order 4 = .ok (.ifCond .ne 5, 3) := by decide +kernel
theorem dX7_order_7 : decode cX7_order 7 = .ok (.iconst (-1), 1) := by decide +kernel
theorem dX7_order_8 : decode cX7_order 8 = .ok (.ireturn, 1) := by decide +kernel
theorem dX7_order_9 : decode cX7_order 9 = .ok (.aload_n 0, 1) := by decide +kernel
theorem dX7_order_10 : decode cX7_order 10 = .ok (.getfield 26, 3) := by decide +kernel
theorem dX7_order_13 : decode cX7_order 13 = .ok (.getfield 104, 3) := by decide +kernel
theorem dX7_order_16 : decode cX7_order 16 = .ok (.ifCond .ne 6, 3) := by decide +kernel
theorem dX7_order_19 : decode cX7_order 19 = .ok (.bipush (-2), 2) := by decide +kernel
theorem dX7_order_21 : decode cX7_order 21 = .ok (.ireturn, 1) := by decide +kernel
theorem dX7_order_22 : decode cX7_order 22 = .ok (.aload_n 0, 1) := by decide +kernel
theorem dX7_order_23 : decode cX7_order 23 = .ok (.getfield 26, 3) := by decide +kernel
theorem dX7_order_26 : decode cX7_order 26 = .ok (.getfield 152, 3) := by decide +kernel
theorem dX7_order_29 : decode cX7_order 29 = .ok (.ifCond .le 6, 3) := by decide +kernel
theorem dX7_order_32 : decode cX7_order 32 = .ok (.bipush (-3), 2) := by decide +kernel
theorem dX7_order_34 : decode cX7_order 34 = .ok (.ireturn, 1) := by decide +kernel
theorem dX7_order_35 : decode cX7_order 35 = .ok (.aload_n 0, 1) := by decide +kernel
theorem dX7_order_36 : decode cX7_order 36 = .ok (.invokevirtual 130, 3) := by decide +kernel
theorem dX7_order_39 : decode cX7_order 39 = .ok (.aload_n 0, 1) := by decide +kernel
theorem dX7_order_40 : decode cX7_order 40 = .ok (.getfield 26, 3) := by decide +kernel
theorem dX7_order_43 : decode cX7_order 43 = .ok (.getfield 162, 3) := by decide +kernel
theorem dX7_order_46 : decode cX7_order 46 = .ok (.istore_n 2, 1) := by decide +kernel
theorem dX7_order_47 : decode cX7_order 47 = .ok (.aload_n 0, 1) := by decide +kernel
theorem dX7_order_48 : decode cX7_order 48 = .ok (.getfield 26, 3) := by decide +kernel
theorem dX7_order_51 : decode cX7_order 51 = .ok (.iload_n 1, 1) := by decide +kernel
theorem dX7_order_52 : decode cX7_order 52 = .ok (.putfield 162, 3) := by decide +kernel
theorem dX7_order_55 : decode cX7_order 55 = .ok (.iload_n 2, 1) := by decide +kernel
theorem dX7_order_56 : decode cX7_order 56 = .ok (.ireturn, 1) := by decide +kernel
theorem dX7_first_0 : decode cX7_first 0 = .ok (.aload_n 0, 1) := by decide +kernel
theorem dX7_first_1 : decode cX7_first 1 = .ok (.iload_n 1, 1) := by decide +kernel
theorem dX7_first_2 : decode cX7_first 2 = .ok (.invokevirtual 107, 3) := by decide +kernel
theorem dX7_first_5 : decode cX7_first 5 = .ok (.ifCond .ne 6, 3) := by decide +kernel
theorem dX7_first_8 : decode cX7_first 8 = .ok (.bipush (-2), 2) := by decide +kernel
theorem dX7_first_10 : decode cX7_first 10 = .ok (.ireturn, 1) := by decide +kernel
theorem dX7_first_11 : decode cX7_first 11 = .ok (.aload_n 0, 1) := by decide +kernel
theorem dX7_first_12 : decode cX7_first 12 = .ok (.getfield 26, 3) := by decide +kernel
theorem dX7_first_15 : decode cX7_first 15 = .ok (.getfield 152, 3) := by decide +kernel
theorem dX7_first_18 : decode cX7_first 18 = .ok (.ifCond .le 6, 3) := by decide +kernel
theorem dX7_first_21 : decode cX7_first 21 = .ok (.bipush (-3), 2) := by decide +kernel
theorem dX7_first_23 : decode cX7_first 23 = .ok (.ireturn, 1) := by decide +kernel
theorem dX7_first_24 : decode cX7_first 24 = .ok (.aload_n 0, 1) := by decide +kernel
theorem dX7_first_25 : decode cX7_first 25 = .ok (.invokevirtual 130, 3) := by decide +kernel
theorem dX7_first_28 : decode cX7_first 28 = .ok (.aload_n 0, 1) := by decide +kernel
theorem dX7_first_29 : decode cX7_first 29 = .ok (.getfield 26, 3) := by decide +kernel
theorem dX7_first_32 : decode cX7_first 32 = .ok (.getfield 165, 3) := by decide +kernel
theorem dX7_first_35 : decode cX7_first 35 = .ok (.istore_n 2, 1) := by decide +kernel
theorem dX7_first_36 : decode cX7_first 36 = .ok (.aload_n 0, 1) := by decide +kernel
theorem dX7_first_37 : decode cX7_first 37 = .ok (.getfield 26, 3) := by decide +kernel
theorem dX7_first_40 : decode cX7_first 40 = .ok (.iload_n 1, 1) := by decide +kernel
theorem dX7_first_41 : decode cX7_first 41 = .ok (.putfield 165, 3) := by decide +kernel
theorem dX7_first_44 : decode cX7_first 44 = .ok (.iload_n 2, 1) := by decide +kernel
theorem dX7_first_45 : decode cX7_first 45 = .ok (.ireturn, 1) := by decide +kernel
theorem dX7_turn_0 : decode cX7_turn 0 = .ok (.aload_n 0, 1) := by decide +kernel
theorem dX7_turn_1 : decode cX7_turn 1 = .ok (.getfield 26, 3) := by decide +kernel
theorem dX7_turn_4 : decode cX7_turn 4 = .ok (.getfield 104, 3) := by decide +kernel
theorem dX7_turn_7 : decode cX7_turn 7 = .ok (.ifCond .eq 12, 3) := by decide +kernel
theorem dX7_turn_10 : decode cX7_turn 10 = .ok (.iload_n 1, 1) := by decide +kernel
theorem dX7_turn_11 : decode cX7_turn 11 = .ok (.ifCond .lt 8, 3) := by decide +kernel
theorem dX7_turn_14 : decode cX7_turn 14 = .ok (.iload_n 1, 1) := by decide +kernel
theorem dX7_turn_15 : decode cX7_turn 15 = .ok (.iconst 3, 1) := by decide +kernel
theorem dX7_turn_16 : decode cX7_turn 16 = .ok (.if_icmp .le 5, 3) := by decide +kernel
theorem dX7_turn_19 : decode cX7_turn 19 = .ok (.iconst (-1), 1) := by decide +kernel
theorem dX7_turn_20 : decode cX7_turn 20 = .ok (.ireturn, 1) := by decide +kernel
theorem dX7_turn_21 : decode cX7_turn 21 = .ok (.aload_n 0, 1) := by decide +kernel
theorem dX7_turn_22 : decode cX7_turn 22 = .ok (.getfield 26, 3) := by decide +kernel
theorem dX7_turn_25 : decode cX7_turn 25 = .ok (.invokevirtual 168, 3) := by decide +kernel
theorem dX7_turn_28 : decode cX7_turn 28 = .ok (.ifCond .eq 6, 3) := by decide +kernel
theorem dX7_turn_31 : decode cX7_turn 31 = .ok (.bipush (-2), 2) := by decide +kernel
theorem dX7_turn_33 : decode cX7_turn 33 = .ok (.ireturn, 1) := by decide +kernel
theorem dX7_turn_34 : decode cX7_turn 34 = .ok (.iload_n 1, 1) := by decide +kernel
theorem dX7_turn_35 : decode cX7_turn 35 = .ok (.tableswitch 49 0 2 #[25, 33, 41], 25) := by decide +kernel
theorem dX7_turn_60 : decode cX7_turn 60 = .ok (.aload_n 0, 1) := by decide +kernel
theorem dX7_turn_61 : decode cX7_turn 61 = .ok (.getfield 26, 3) := by decide +kernel
theorem dX7_turn_64 : decode cX7_turn 64 = .ok (.invokevirtual 133, 3) := by decide +kernel
theorem dX7_turn_67 : decode cX7_turn 67 = .ok (.ireturn, 1) := by decide +kernel
theorem dX7_turn_68 : decode cX7_turn 68 = .ok (.aload_n 0, 1) := by decide +kernel
theorem dX7_turn_69 : decode cX7_turn 69 = .ok (.getfield 26, 3) := by decide +kernel
theorem dX7_turn_72 : decode cX7_turn 72 = .ok (.invokevirtual 171, 3) := by decide +kernel
theorem dX7_turn_75 : decode cX7_turn 75 = .ok (.ireturn, 1) := by decide +kernel
theorem dX7_turn_76 : decode cX7_turn 76 = .ok (.aload_n 0, 1) := by decide +kernel
theorem dX7_turn_77 : decode cX7_turn 77 = .ok (.getfield 26, 3) := by decide +kernel
theorem dX7_turn_80 : decode cX7_turn 80 = .ok (.invokevirtual 174, 3) := by decide +kernel
theorem dX7_turn_83 : decode cX7_turn 83 = .ok (.ireturn, 1) := by decide +kernel
theorem dX7_turn_84 : decode cX7_turn 84 = .ok (.aload_n 0, 1) := by decide +kernel
theorem dX7_turn_85 : decode cX7_turn 85 = .ok (.getfield 26, 3) := by decide +kernel
theorem dX7_turn_88 : decode cX7_turn 88 = .ok (.invokevirtual 177, 3) := by decide +kernel
theorem dX7_turn_91 : decode cX7_turn 91 = .ok (.ireturn, 1) := by decide +kernel
theorem dX7_odds_0 : decode cX7_odds 0 = .ok (.aload_n 0, 1) := by decide +kernel
theorem dX7_odds_1 : decode cX7_odds 1 = .ok (.iload_n 1, 1) := by decide +kernel
theorem dX7_odds_2 : decode cX7_odds 2 = .ok (.invokevirtual 107, 3) := by decide +kernel
theorem dX7_odds_5 : decode cX7_odds 5 = .ok (.ifCond .eq 10, 3) := by decide +kernel
theorem dX7_odds_8 : decode cX7_odds 8 = .ok (.iload_n 2, 1) := by decide +kernel
theorem dX7_odds_9 : decode cX7_odds 9 = .ok (.invokestatic 180, 3) := by decide +kernel
theorem dX7_odds_12 : decode cX7_odds 12 = .ok (.ifCond .ne 7, 3) := by decide +kernel
theorem dX7_odds_15 : decode cX7_odds 15 = .ok (.ldc2_w 183, 3) := by decide +kernel
theorem dX7_odds_18 : decode cX7_odds 18 = .ok (.lreturn, 1) := by decide +kernel
theorem dX7_odds_19 : decode cX7_odds 19 = .ok (.aload_n 0, 1) := by decide +kernel
theorem dX7_odds_20 : decode cX7_odds 20 = .ok (.getfield 51, 3) := by decide +kernel
theorem dX7_odds_23 : decode cX7_odds 23 = .ok (.aload_n 0, 1) := by decide +kernel
theorem dX7_odds_24 : decode cX7_odds 24 = .ok (.getfield 26, 3) := by decide +kernel
theorem dX7_odds_27 : decode cX7_odds 27 = .ok (.invokevirtual 185, 3) := by decide +kernel
theorem dX7_odds_30 : decode cX7_odds 30 = .ok (.aload_n 0, 1) := by decide +kernel
theorem dX7_odds_31 : decode cX7_odds 31 = .ok (.iload_n 1, 1) := by decide +kernel
theorem dX7_odds_32 : decode cX7_odds 32 = .ok (.iload_n 2, 1) := by decide +kernel
theorem dX7_odds_33 : decode cX7_odds 33 = .ok (.invokevirtual 188, 3) := by decide +kernel
theorem dX7_odds_36 : decode cX7_odds 36 = .ok (.lreturn, 1) := by decide +kernel
theorem dX7_matters_0 : decode cX7_matters 0 = .ok (.aload_n 0, 1) := by decide +kernel
theorem dX7_matters_1 : decode cX7_matters 1 = .ok (.getfield 26, 3) := by decide +kernel
theorem dX7_matters_4 : decode cX7_matters 4 = .ok (.getfield 104, 3) := by decide +kernel
theorem dX7_matters_7 : decode cX7_matters 7 = .ok (.ifCond .eq 20, 3) := by decide +kernel
theorem dX7_matters_10 : decode cX7_matters 10 = .ok (.iload_n 1, 1) := by decide +kernel
theorem dX7_matters_11 : decode cX7_matters 11 = .ok (.invokestatic 180, 3) := by decide +kernel
theorem dX7_matters_14 : decode cX7_matters 14 = .ok (.ifCond .eq 13, 3) := by decide +kernel
theorem dX7_matters_17 : decode cX7_matters 17 = .ok (.aload_n 0, 1) := by decide +kernel
theorem dX7_matters_18 : decode cX7_matters 18 = .ok (.getfield 26, 3) := by decide +kernel
theorem dX7_matters_21 : decode cX7_matters 21 = .ok (.invokevirtual 168, 3) := by decide +kernel
theorem dX7_matters_24 : decode cX7_matters 24 = .ok (.ifCond .eq 7, 3) := by decide +kernel
theorem dX7_matters_27 : decode cX7_matters 27 = .ok (.ldc2_w 192, 3) := by decide +kernel
theorem dX7_matters_30 : decode cX7_matters 30 = .ok (.lreturn, 1) := by decide +kernel
theorem dX7_matters_31 : decode cX7_matters 31 = .ok (.aload_n 0, 1) := by decide +kernel
theorem dX7_matters_32 : decode cX7_matters 32 = .ok (.getfield 26, 3) := by decide +kernel
theorem dX7_matters_35 : decode cX7_matters 35 = .ok (.invokevirtual 133, 3) := by decide +kernel
theorem dX7_matters_38 : decode cX7_matters 38 = .ok (.istore_n 2, 1) := by decide +kernel
theorem dX7_matters_39 : decode cX7_matters 39 = .ok (.aload_n 0, 1) := by decide +kernel
theorem dX7_matters_40 : decode cX7_matters 40 = .ok (.getfield 30, 3) := by decide +kernel
theorem dX7_matters_43 : decode cX7_matters 43 = .ok (.aload_n 0, 1) := by decide +kernel
theorem dX7_matters_44 : decode cX7_matters 44 = .ok (.getfield 26, 3) := by decide +kernel
theorem dX7_matters_47 : decode cX7_matters 47 = .ok (.invokevirtual 93, 3) := by decide +kernel
theorem dX7_matters_50 : decode cX7_matters 50 = .ok (.aload_n 0, 1) := by decide +kernel
theorem dX7_matters_51 : decode cX7_matters 51 = .ok (.getfield 30, 3) := by decide +kernel
theorem dX7_matters_54 : decode cX7_matters 54 = .ok (.iconst 1, 1) := by decide +kernel
theorem dX7_matters_55 : decode cX7_matters 55 = .ok (.invokevirtual 136, 3) := by decide +kernel
theorem dX7_matters_58 : decode cX7_matters 58 = .ok (.aload_n 0, 1) := by decide +kernel
theorem dX7_matters_59 : decode cX7_matters 59 = .ok (.getfield 51, 3) := by decide +kernel
theorem dX7_matters_62 : decode cX7_matters 62 = .ok (.aload_n 0, 1) := by decide +kernel
theorem dX7_matters_63 : decode cX7_matters 63 = .ok (.getfield 30, 3) := by decide +kernel
theorem dX7_matters_66 : decode cX7_matters 66 = .ok (.invokevirtual 185, 3) := by decide +kernel
theorem dX7_matters_69 : decode cX7_matters 69 = .ok (.aload_n 0, 1) := by decide +kernel
theorem dX7_matters_70 : decode cX7_matters 70 = .ok (.getfield 58, 3) := by decide +kernel
theorem dX7_matters_73 : decode cX7_matters 73 = .ok (.aload_n 0, 1) := by decide +kernel
theorem dX7_matters_74 : decode cX7_matters 74 = .ok (.getfield 51, 3) := by decide +kernel
theorem dX7_matters_77 : decode cX7_matters 77 = .ok (.iload_n 2, 1) := by decide +kernel
theorem dX7_matters_78 : decode cX7_matters 78 = .ok (.invokevirtual 194, 3) := by decide +kernel
theorem dX7_matters_81 : decode cX7_matters 81 = .ok (.aload_n 0, 1) := by decide +kernel
theorem dX7_matters_82 : decode cX7_matters 82 = .ok (.getfield 51, 3) := by decide +kernel
theorem dX7_matters_85 : decode cX7_matters 85 = .ok (.getfield 198, 3) := by decide +kernel
theorem dX7_matters_88 : decode cX7_matters 88 = .ok (.invokevirtual 202, 3) := by decide +kernel
theorem dX7_matters_91 : decode cX7_matters 91 = .ok (.aload_n 0, 1) := by decide +kernel
theorem dX7_matters_92 : decode cX7_matters 92 = .ok (.getfield 30, 3) := by decide +kernel
theorem dX7_matters_95 : decode cX7_matters 95 = .ok (.aload_n 0, 1) := by decide +kernel
theorem dX7_matters_96 : decode cX7_matters 96 = .ok (.getfield 26, 3) := by decide +kernel
theorem dX7_matters_99 : decode cX7_matters 99 = .ok (.invokevirtual 93, 3) := by decide +kernel
theorem dX7_matters_102 : decode cX7_matters 102 = .ok (.aload_n 0, 1) := by decide +kernel
theorem dX7_matters_103 : decode cX7_matters 103 = .ok (.getfield 30, 3) := by decide +kernel
theorem dX7_matters_106 : decode cX7_matters 106 = .ok (.iconst 0, 1) := by decide +kernel
theorem dX7_matters_107 : decode cX7_matters 107 = .ok (.invokevirtual 136, 3) := by decide +kernel
theorem dX7_matters_110 : decode cX7_matters 110 = .ok (.aload_n 0, 1) := by decide +kernel
theorem dX7_matters_111 : decode cX7_matters 111 = .ok (.getfield 51, 3) := by decide +kernel
theorem dX7_matters_114 : decode cX7_matters 114 = .ok (.aload_n 0, 1) := by decide +kernel
theorem dX7_matters_115 : decode cX7_matters 115 = .ok (.getfield 30, 3) := by decide +kernel
theorem dX7_matters_118 : decode cX7_matters 118 = .ok (.invokevirtual 185, 3) := by decide +kernel
theorem dX7_matters_121 : decode cX7_matters 121 = .ok (.aload_n 0, 1) := by decide +kernel
theorem dX7_matters_122 : decode cX7_matters 122 = .ok (.getfield 58, 3) := by decide +kernel
theorem dX7_matters_125 : decode cX7_matters 125 = .ok (.aload_n 0, 1) := by decide +kernel
theorem dX7_matters_126 : decode cX7_matters 126 = .ok (.getfield 51, 3) := by decide +kernel
theorem dX7_matters_129 : decode cX7_matters 129 = .ok (.iload_n 2, 1) := by decide +kernel
theorem dX7_matters_130 : decode cX7_matters 130 = .ok (.invokevirtual 194, 3) := by decide +kernel
theorem dX7_matters_133 : decode cX7_matters 133 = .ok (.aload_n 0, 1) := by decide +kernel
theorem dX7_matters_134 : decode cX7_matters 134 = .ok (.getfield 51, 3) := by decide +kernel
theorem dX7_matters_137 : decode cX7_matters 137 = .ok (.getfield 198, 3) := by decide +kernel
theorem dX7_matters_140 : decode cX7_matters 140 = .ok (.invokevirtual 205, 3) := by decide +kernel
theorem dX7_matters_143 : decode cX7_matters 143 = .ok (.aload_n 0, 1) := by decide +kernel
theorem dX7_matters_144 : decode cX7_matters 144 = .ok (.getfield 58, 3) := by decide +kernel
theorem dX7_matters_147 : decode cX7_matters 147 = .ok (.invokevirtual 208, 3) := by decide +kernel
theorem dX7_matters_150 : decode cX7_matters 150 = .ok (.aload_n 0, 1) := by decide +kernel
theorem dX7_matters_151 : decode cX7_matters 151 = .ok (.getfield 58, 3) := by decide +kernel
theorem dX7_matters_154 : decode cX7_matters 154 = .ok (.iload_n 1, 1) := by decide +kernel
theorem dX7_matters_155 : decode cX7_matters 155 = .ok (.invokevirtual 211, 3) := by decide +kernel
theorem dX7_matters_158 : decode cX7_matters 158 = .ok (.lreturn, 1) := by decide +kernel
theorem dX7_oddsBy_0 : decode cX7_oddsBy 0 = .ok (.aload_n 0, 1) := by decide +kernel
theorem dX7_oddsBy_1 : decode cX7_oddsBy 1 = .ok (.iload_n 1, 1) := by decide +kernel
theorem dX7_oddsBy_2 : decode cX7_oddsBy 2 = .ok (.invokevirtual 107, 3) := by decide +kernel
theorem dX7_oddsBy_5 : decode cX7_oddsBy 5 = .ok (.ifCond .eq 25, 3) := by decide +kernel
theorem dX7_oddsBy_8 : decode cX7_oddsBy 8 = .ok (.iload_n 2, 1) := by decide +kernel
theorem dX7_oddsBy_9 : decode cX7_oddsBy 9 = .ok (.invokestatic 159, 3) := by decide +kernel
theorem dX7_oddsBy_12 : decode cX7_oddsBy 12 = .ok (.ifCond .eq 18, 3) := by decide +kernel
theorem dX7_oddsBy_15 : decode cX7_oddsBy 15 = .ok (.iload_n 3, 1) := by decide +kernel
theorem dX7_oddsBy_16 : decode cX7_oddsBy 16 = .ok (.invokestatic 214, 3) := by decide +kernel
theorem dX7_oddsBy_19 : decode cX7_oddsBy 19 = .ok (.ifCond .eq 11, 3) := by decide +kernel
theorem dX7_oddsBy_22 : decode cX7_oddsBy 22 = .ok (.iload 4, 2) := by decide +kernel
theorem dX7_oddsBy_24 : decode cX7_oddsBy 24 = .ok (.invokestatic 180, 3) := by decide +kernel
theorem dX7_oddsBy_27 : decode cX7_oddsBy 27 = .ok (.ifCond .ne 7, 3) := by decide +kernel
theorem dX7_oddsBy_30 : decode cX7_oddsBy 30 = .ok (.ldc2_w 183, 3) := by decide +kernel
theorem dX7_oddsBy_33 : decode cX7_oddsBy 33 = .ok (.lreturn, 1) := by decide +kernel
theorem dX7_oddsBy_34 : decode cX7_oddsBy 34 = .ok (.aload_n 0, 1) := by decide +kernel
theorem dX7_oddsBy_35 : decode cX7_oddsBy 35 = .ok (.iload_n 2, 1) := by decide +kernel
theorem dX7_oddsBy_36 : decode cX7_oddsBy 36 = .ok (.iload_n 3, 1) := by decide +kernel
theorem dX7_oddsBy_37 : decode cX7_oddsBy 37 = .ok (.invokevirtual 217, 3) := by decide +kernel
theorem dX7_oddsBy_40 : decode cX7_oddsBy 40 = .ok (.aload_n 0, 1) := by decide +kernel
theorem dX7_oddsBy_41 : decode cX7_oddsBy 41 = .ok (.iload_n 1, 1) := by decide +kernel
theorem dX7_oddsBy_42 : decode cX7_oddsBy 42 = .ok (.iload 4, 2) := by decide +kernel
theorem dX7_oddsBy_44 : decode cX7_oddsBy 44 = .ok (.invokevirtual 188, 3) := by decide +kernel
theorem dX7_oddsBy_47 : decode cX7_oddsBy 47 = .ok (.lreturn, 1) := by decide +kernel
theorem dX7_unfair_0 : decode cX7_unfair 0 = .ok (.aload_n 0, 1) := by decide +kernel
theorem dX7_unfair_1 : decode cX7_unfair 1 = .ok (.getfield 26, 3) := by decide +kernel
theorem dX7_unfair_4 : decode cX7_unfair 4 = .ok (.getfield 104, 3) := by decide +kernel
theorem dX7_unfair_7 : decode cX7_unfair 7 = .ok (.ifCond .eq 17, 3) := by decide +kernel
theorem dX7_unfair_10 : decode cX7_unfair 10 = .ok (.iload_n 1, 1) := by decide +kernel
theorem dX7_unfair_11 : decode cX7_unfair 11 = .ok (.invokestatic 159, 3) := by decide +kernel
theorem dX7_unfair_14 : decode cX7_unfair 14 = .ok (.ifCond .eq 10, 3) := by decide +kernel
theorem dX7_unfair_17 : decode cX7_unfair 17 = .ok (.iload_n 2, 1) := by decide +kernel
theorem dX7_unfair_18 : decode cX7_unfair 18 = .ok (.invokestatic 180, 3) := by decide +kernel
theorem dX7_unfair_21 : decode cX7_unfair 21 = .ok (.ifCond .ne 7, 3) := by decide +kernel
theorem dX7_unfair_24 : decode cX7_unfair 24 = .ok (.ldc2_w 183, 3) := by decide +kernel
theorem dX7_unfair_27 : decode cX7_unfair 27 = .ok (.lreturn, 1) := by decide +kernel
theorem dX7_unfair_28 : decode cX7_unfair 28 = .ok (.aload_n 0, 1) := by decide +kernel
theorem dX7_unfair_29 : decode cX7_unfair 29 = .ok (.iload_n 1, 1) := by decide +kernel
theorem dX7_unfair_30 : decode cX7_unfair 30 = .ok (.aload_n 0, 1) := by decide +kernel
theorem dX7_unfair_31 : decode cX7_unfair 31 = .ok (.getfield 26, 3) := by decide +kernel
theorem dX7_unfair_34 : decode cX7_unfair 34 = .ok (.getfield 165, 3) := by decide +kernel
theorem dX7_unfair_37 : decode cX7_unfair 37 = .ok (.invokevirtual 217, 3) := by decide +kernel
theorem dX7_unfair_40 : decode cX7_unfair 40 = .ok (.aload_n 0, 1) := by decide +kernel
theorem dX7_unfair_41 : decode cX7_unfair 41 = .ok (.getfield 58, 3) := by decide +kernel
theorem dX7_unfair_44 : decode cX7_unfair 44 = .ok (.aload_n 0, 1) := by decide +kernel
theorem dX7_unfair_45 : decode cX7_unfair 45 = .ok (.getfield 51, 3) := by decide +kernel
theorem dX7_unfair_48 : decode cX7_unfair 48 = .ok (.invokevirtual 221, 3) := by decide +kernel
theorem dX7_unfair_51 : decode cX7_unfair 51 = .ok (.aload_n 0, 1) := by decide +kernel
theorem dX7_unfair_52 : decode cX7_unfair 52 = .ok (.getfield 51, 3) := by decide +kernel
theorem dX7_unfair_55 : decode cX7_unfair 55 = .ok (.getfield 198, 3) := by decide +kernel
theorem dX7_unfair_58 : decode cX7_unfair 58 = .ok (.invokevirtual 202, 3) := by decide +kernel
theorem dX7_unfair_61 : decode cX7_unfair 61 = .ok (.aload_n 0, 1) := by decide +kernel
theorem dX7_unfair_62 : decode cX7_unfair 62 = .ok (.getfield 58, 3) := by decide +kernel
theorem dX7_unfair_65 : decode cX7_unfair 65 = .ok (.invokevirtual 208, 3) := by decide +kernel
theorem dX7_unfair_68 : decode cX7_unfair 68 = .ok (.aload_n 0, 1) := by decide +kernel
theorem dX7_unfair_69 : decode cX7_unfair 69 = .ok (.getfield 58, 3) := by decide +kernel
theorem dX7_unfair_72 : decode cX7_unfair 72 = .ok (.iload_n 2, 1) := by decide +kernel
theorem dX7_unfair_73 : decode cX7_unfair 73 = .ok (.invokevirtual 211, 3) := by decide +kernel
theorem dX7_unfair_76 : decode cX7_unfair 76 = .ok (.lreturn, 1) := by decide +kernel
theorem dX7_fairest_0 : decode cX7_fairest 0 = .ok (.aload_n 0, 1) := by decide +kernel
theorem dX7_fairest_1 : decode cX7_fairest 1 = .ok (.getfield 26, 3) := by decide +kernel
theorem dX7_fairest_4 : decode cX7_fairest 4 = .ok (.getfield 104, 3) := by decide +kernel
theorem dX7_fairest_7 : decode cX7_fairest 7 = .ok (.ifCond .ne 5, 3) := by decide +kernel
theorem dX7_fairest_10 : decode cX7_fairest 10 = .ok (.iconst (-1), 1) := by decide +kernel
theorem dX7_fairest_11 : decode cX7_fairest 11 = .ok (.ireturn, 1) := by decide +kernel
theorem dX7_fairest_12 : decode cX7_fairest 12 = .ok (.iconst 0, 1) := by decide +kernel
theorem dX7_fairest_13 : decode cX7_fairest 13 = .ok (.istore_n 1, 1) := by decide +kernel
theorem dX7_fairest_14 : decode cX7_fairest 14 = .ok (.iconst 0, 1) := by decide +kernel
theorem dX7_fairest_15 : decode cX7_fairest 15 = .ok (.istore_n 2, 1) := by decide +kernel
theorem dX7_fairest_16 : decode cX7_fairest 16 = .ok (.iload_n 2, 1) := by decide +kernel
theorem dX7_fairest_17 : decode cX7_fairest 17 = .ok (.iconst 3, 1) := by decide +kernel
theorem dX7_fairest_18 : decode cX7_fairest 18 = .ok (.if_icmp .gt 83, 3) := by decide +kernel
theorem dX7_fairest_21 : decode cX7_fairest 21 = .ok (.aload_n 0, 1) := by decide +kernel
theorem dX7_fairest_22 : decode cX7_fairest 22 = .ok (.iload_n 2, 1) := by decide +kernel
theorem dX7_fairest_23 : decode cX7_fairest 23 = .ok (.aload_n 0, 1) := by decide +kernel
theorem dX7_fairest_24 : decode cX7_fairest 24 = .ok (.getfield 26, 3) := by decide +kernel
theorem dX7_fairest_27 : decode cX7_fairest 27 = .ok (.getfield 165, 3) := by decide +kernel
theorem dX7_fairest_30 : decode cX7_fairest 30 = .ok (.invokevirtual 217, 3) := by decide +kernel
theorem dX7_fairest_33 : decode cX7_fairest 33 = .ok (.aload_n 0, 1) := by decide +kernel
theorem dX7_fairest_34 : decode cX7_fairest 34 = .ok (.getfield 58, 3) := by decide +kernel
theorem dX7_fairest_37 : decode cX7_fairest 37 = .ok (.aload_n 0, 1) := by decide +kernel
theorem dX7_fairest_38 : decode cX7_fairest 38 = .ok (.getfield 51, 3) := by decide +kernel
theorem dX7_fairest_41 : decode cX7_fairest 41 = .ok (.invokevirtual 221, 3) := by decide +kernel
theorem dX7_fairest_44 : decode cX7_fairest 44 = .ok (.aload_n 0, 1) := by decide +kernel
theorem dX7_fairest_45 : decode cX7_fairest 45 = .ok (.getfield 51, 3) := by decide +kernel
theorem dX7_fairest_48 : decode cX7_fairest 48 = .ok (.getfield 198, 3) := by decide +kernel
theorem dX7_fairest_51 : decode cX7_fairest 51 = .ok (.invokevirtual 202, 3) := by decide +kernel
theorem dX7_fairest_54 : decode cX7_fairest 54 = .ok (.iload_n 2, 1) := by decide +kernel
theorem dX7_fairest_55 : decode cX7_fairest 55 = .ok (.ifCond .eq 17, 3) := by decide +kernel
theorem dX7_fairest_58 : decode cX7_fairest 58 = .ok (.aload_n 0, 1) := by decide +kernel
theorem dX7_fairest_59 : decode cX7_fairest 59 = .ok (.getfield 58, 3) := by decide +kernel
theorem dX7_fairest_62 : decode cX7_fairest 62 = .ok (.aload_n 0, 1) := by decide +kernel
theorem dX7_fairest_63 : decode cX7_fairest 63 = .ok (.getfield 62, 3) := by decide +kernel
theorem dX7_fairest_66 : decode cX7_fairest 66 = .ok (.invokevirtual 225, 3) := by decide +kernel
theorem dX7_fairest_69 : decode cX7_fairest 69 = .ok (.ifCond .ge 26, 3) := by decide +kernel
theorem dX7_fairest_72 : decode cX7_fairest 72 = .ok (.aload_n 0, 1) := by decide +kernel
theorem dX7_fairest_73 : decode cX7_fairest 73 = .ok (.getfield 62, 3) := by decide +kernel
theorem dX7_fairest_76 : decode cX7_fairest 76 = .ok (.aload_n 0, 1) := by decide +kernel
theorem dX7_fairest_77 : decode cX7_fairest 77 = .ok (.getfield 58, 3) := by decide +kernel
theorem dX7_fairest_80 : decode cX7_fairest 80 = .ok (.getfield 229, 3) := by decide +kernel
theorem dX7_fairest_83 : decode cX7_fairest 83 = .ok (.aload_n 0, 1) := by decide +kernel
theorem dX7_fairest_84 : decode cX7_fairest 84 = .ok (.getfield 58, 3) := by decide +kernel
theorem dX7_fairest_87 : decode cX7_fairest 87 = .ok (.getfield 232, 3) := by decide +kernel
theorem dX7_fairest_90 : decode cX7_fairest 90 = .ok (.invokevirtual 202, 3) := by decide +kernel
theorem dX7_fairest_93 : decode cX7_fairest 93 = .ok (.iload_n 2, 1) := by decide +kernel
theorem dX7_fairest_94 : decode cX7_fairest 94 = .ok (.istore_n 1, 1) := by decide +kernel
theorem dX7_fairest_95 : decode cX7_fairest 95 = .ok (.iinc 2 1, 3) := by decide +kernel
theorem dX7_fairest_98 : decode cX7_fairest 98 = .ok (.goto (-82), 3) := by decide +kernel
theorem dX7_fairest_101 : decode cX7_fairest 101 = .ok (.iload_n 1, 1) := by decide +kernel
theorem dX7_fairest_102 : decode cX7_fairest 102 = .ok (.ireturn, 1) := by decide +kernel
theorem dX7_toss_0 : decode cX7_toss 0 = .ok (.aload_n 0, 1) := by decide +kernel
theorem dX7_toss_1 : decode cX7_toss 1 = .ok (.iload_n 1, 1) := by decide +kernel
theorem dX7_toss_2 : decode cX7_toss 2 = .ok (.invokevirtual 107, 3) := by decide +kernel
theorem dX7_toss_5 : decode cX7_toss 5 = .ok (.ifCond .eq 10, 3) := by decide +kernel
theorem dX7_toss_8 : decode cX7_toss 8 = .ok (.iload_n 2, 1) := by decide +kernel
theorem dX7_toss_9 : decode cX7_toss 9 = .ok (.invokestatic 159, 3) := by decide +kernel
theorem dX7_toss_12 : decode cX7_toss 12 = .ok (.ifCond .ne 5, 3) := by decide +kernel
theorem dX7_toss_15 : decode cX7_toss 15 = .ok (.iconst (-1), 1) := by decide +kernel
theorem dX7_toss_16 : decode cX7_toss 16 = .ok (.ireturn, 1) := by decide +kernel
theorem dX7_toss_17 : decode cX7_toss 17 = .ok (.aload_n 0, 1) := by decide +kernel
theorem dX7_toss_18 : decode cX7_toss 18 = .ok (.iload_n 2, 1) := by decide +kernel
theorem dX7_toss_19 : decode cX7_toss 19 = .ok (.iload_n 1, 1) := by decide +kernel
theorem dX7_toss_20 : decode cX7_toss 20 = .ok (.invokevirtual 217, 3) := by decide +kernel
theorem dX7_toss_23 : decode cX7_toss 23 = .ok (.aload_n 0, 1) := by decide +kernel
theorem dX7_toss_24 : decode cX7_toss 24 = .ok (.getfield 58, 3) := by decide +kernel
theorem dX7_toss_27 : decode cX7_toss 27 = .ok (.aload_n 0, 1) := by decide +kernel
theorem dX7_toss_28 : decode cX7_toss 28 = .ok (.getfield 51, 3) := by decide +kernel
theorem dX7_toss_31 : decode cX7_toss 31 = .ok (.iload_n 1, 1) := by decide +kernel
theorem dX7_toss_32 : decode cX7_toss 32 = .ok (.invokevirtual 194, 3) := by decide +kernel
theorem dX7_toss_35 : decode cX7_toss 35 = .ok (.aload_n 0, 1) := by decide +kernel
theorem dX7_toss_36 : decode cX7_toss 36 = .ok (.getfield 51, 3) := by decide +kernel
theorem dX7_toss_39 : decode cX7_toss 39 = .ok (.getfield 198, 3) := by decide +kernel
theorem dX7_toss_42 : decode cX7_toss 42 = .ok (.invokevirtual 202, 3) := by decide +kernel
theorem dX7_toss_45 : decode cX7_toss 45 = .ok (.aload_n 0, 1) := by decide +kernel
theorem dX7_toss_46 : decode cX7_toss 46 = .ok (.iload_n 2, 1) := by decide +kernel
theorem dX7_toss_47 : decode cX7_toss 47 = .ok (.iconst 1, 1) := by decide +kernel
theorem dX7_toss_48 : decode cX7_toss 48 = .ok (.iload_n 1, 1) := by decide +kernel
theorem dX7_toss_49 : decode cX7_toss 49 = .ok (.isub, 1) := by decide +kernel
theorem dX7_toss_50 : decode cX7_toss 50 = .ok (.invokevirtual 217, 3) := by decide +kernel
theorem dX7_toss_53 : decode cX7_toss 53 = .ok (.aload_n 0, 1) := by decide +kernel
theorem dX7_toss_54 : decode cX7_toss 54 = .ok (.getfield 62, 3) := by decide +kernel
theorem dX7_toss_57 : decode cX7_toss 57 = .ok (.aload_n 0, 1) := by decide +kernel
theorem dX7_toss_58 : decode cX7_toss 58 = .ok (.getfield 51, 3) := by decide +kernel
theorem dX7_toss_61 : decode cX7_toss 61 = .ok (.iload_n 1, 1) := by decide +kernel
theorem dX7_toss_62 : decode cX7_toss 62 = .ok (.invokevirtual 194, 3) := by decide +kernel
theorem dX7_toss_65 : decode cX7_toss 65 = .ok (.aload_n 0, 1) := by decide +kernel
theorem dX7_toss_66 : decode cX7_toss 66 = .ok (.getfield 51, 3) := by decide +kernel
theorem dX7_toss_69 : decode cX7_toss 69 = .ok (.getfield 198, 3) := by decide +kernel
theorem dX7_toss_72 : decode cX7_toss 72 = .ok (.invokevirtual 202, 3) := by decide +kernel
theorem dX7_toss_75 : decode cX7_toss 75 = .ok (.aload_n 0, 1) := by decide +kernel
theorem dX7_toss_76 : decode cX7_toss 76 = .ok (.getfield 58, 3) := by decide +kernel
theorem dX7_toss_79 : decode cX7_toss 79 = .ok (.aload_n 0, 1) := by decide +kernel
theorem dX7_toss_80 : decode cX7_toss 80 = .ok (.getfield 62, 3) := by decide +kernel
theorem dX7_toss_83 : decode cX7_toss 83 = .ok (.invokevirtual 225, 3) := by decide +kernel
theorem dX7_toss_86 : decode cX7_toss 86 = .ok (.istore_n 3, 1) := by decide +kernel
theorem dX7_toss_87 : decode cX7_toss 87 = .ok (.iload_n 3, 1) := by decide +kernel
theorem dX7_toss_88 : decode cX7_toss 88 = .ok (.ifCond .le 7, 3) := by decide +kernel
theorem dX7_toss_91 : decode cX7_toss 91 = .ok (.iconst 0, 1) := by decide +kernel
theorem dX7_toss_92 : decode cX7_toss 92 = .ok (.goto 12, 3) := by decide +kernel
theorem dX7_toss_95 : decode cX7_toss 95 = .ok (.iload_n 3, 1) := by decide +kernel
theorem dX7_toss_96 : decode cX7_toss 96 = .ok (.ifCond .ge 7, 3) := by decide +kernel
theorem dX7_toss_99 : decode cX7_toss 99 = .ok (.iconst 1, 1) := by decide +kernel
theorem dX7_toss_100 : decode cX7_toss 100 = .ok (.goto 4, 3) := by decide +kernel
theorem dX7_toss_103 : decode cX7_toss 103 = .ok (.iconst 2, 1) := by decide +kernel
theorem dX7_toss_104 : decode cX7_toss 104 = .ok (.ireturn, 1) := by decide +kernel
theorem dX7_ends_0 : decode cX7_ends 0 = .ok (.aload_n 0, 1) := by decide +kernel
theorem dX7_ends_1 : decode cX7_ends 1 = .ok (.getfield 26, 3) := by decide +kernel
theorem dX7_ends_4 : decode cX7_ends 4 = .ok (.getfield 104, 3) := by decide +kernel
theorem dX7_ends_7 : decode cX7_ends 7 = .ok (.ifCond .eq 20, 3) := by decide +kernel
theorem dX7_ends_10 : decode cX7_ends 10 = .ok (.iload_n 1, 1) := by decide +kernel
theorem dX7_ends_11 : decode cX7_ends 11 = .ok (.ifCond .lt 16, 3) := by decide +kernel
theorem dX7_ends_14 : decode cX7_ends 14 = .ok (.iload_n 1, 1) := by decide +kernel
theorem dX7_ends_15 : decode cX7_ends 15 = .ok (.iconst 2, 1) := by decide +kernel
theorem dX7_ends_16 : decode cX7_ends 16 = .ok (.aload_n 0, 1) := by decide +kernel
theorem dX7_ends_17 : decode cX7_ends 17 = .ok (.getfield 26, 3) := by decide +kernel
theorem dX7_ends_20 : decode cX7_ends 20 = .ok (.getfield 104, 3) := by decide +kernel
theorem dX7_ends_23 : decode cX7_ends 23 = .ok (.imul, 1) := by decide +kernel
theorem dX7_ends_24 : decode cX7_ends 24 = .ok (.if_icmp .le 7, 3) := by decide +kernel
theorem dX7_ends_27 : decode cX7_ends 27 = .ok (.ldc2_w 183, 3) := by decide +kernel
theorem dX7_ends_30 : decode cX7_ends 30 = .ok (.lreturn, 1) := by decide +kernel
theorem dX7_ends_31 : decode cX7_ends 31 = .ok (.aload_n 0, 1) := by decide +kernel
theorem dX7_ends_32 : decode cX7_ends 32 = .ok (.iconst 0, 1) := by decide +kernel
theorem dX7_ends_33 : decode cX7_ends 33 = .ok (.invokevirtual 235, 3) := by decide +kernel
theorem dX7_ends_36 : decode cX7_ends 36 = .ok (.iload_n 1, 1) := by decide +kernel
theorem dX7_ends_37 : decode cX7_ends 37 = .ok (.ifCond .ne 13, 3) := by decide +kernel
theorem dX7_ends_40 : decode cX7_ends 40 = .ok (.aload_n 0, 1) := by decide +kernel
theorem dX7_ends_41 : decode cX7_ends 41 = .ok (.getfield 51, 3) := by decide +kernel
theorem dX7_ends_44 : decode cX7_ends 44 = .ok (.getfield 239, 3) := by decide +kernel
theorem dX7_ends_47 : decode cX7_ends 47 = .ok (.goto 11, 3) := by decide +kernel
theorem dX7_ends_50 : decode cX7_ends 50 = .ok (.aload_n 0, 1) := by decide +kernel
theorem dX7_ends_51 : decode cX7_ends 51 = .ok (.getfield 51, 3) := by decide +kernel
theorem dX7_ends_54 : decode cX7_ends 54 = .ok (.iload_n 1, 1) := by decide +kernel
theorem dX7_ends_55 : decode cX7_ends 55 = .ok (.invokevirtual 242, 3) := by decide +kernel
theorem dX7_ends_58 : decode cX7_ends 58 = .ok (.lreturn, 1) := by decide +kernel
theorem dX7_score_0 : decode cX7_score 0 = .ok (.aload_n 0, 1) := by decide +kernel
theorem dX7_score_1 : decode cX7_score 1 = .ok (.getfield 26, 3) := by decide +kernel
theorem dX7_score_4 : decode cX7_score 4 = .ok (.getfield 104, 3) := by decide +kernel
theorem dX7_score_7 : decode cX7_score 7 = .ok (.ifCond .eq 33, 3) := by decide +kernel
theorem dX7_score_10 : decode cX7_score 10 = .ok (.iload_n 1, 1) := by decide +kernel
theorem dX7_score_11 : decode cX7_score 11 = .ok (.ifCond .lt 29, 3) := by decide +kernel
theorem dX7_score_14 : decode cX7_score 14 = .ok (.iload_n 1, 1) := by decide +kernel
theorem dX7_score_15 : decode cX7_score 15 = .ok (.aload_n 0, 1) := by decide +kernel
theorem dX7_score_16 : decode cX7_score 16 = .ok (.getfield 26, 3) := by decide +kernel
theorem dX7_score_19 : decode cX7_score 19 = .ok (.getfield 104, 3) := by decide +kernel
theorem dX7_score_22 : decode cX7_score 22 = .ok (.if_icmp .gt 18, 3) := by decide +kernel
theorem dX7_score_25 : decode cX7_score 25 = .ok (.iload_n 2, 1) := by decide +kernel
theorem dX7_score_26 : decode cX7_score 26 = .ok (.ifCond .lt 14, 3) := by decide +kernel
theorem dX7_score_29 : decode cX7_score 29 = .ok (.iload_n 2, 1) := by decide +kernel
theorem dX7_score_30 : decode cX7_score 30 = .ok (.aload_n 0, 1) := by decide +kernel
theorem dX7_score_31 : decode cX7_score 31 = .ok (.getfield 26, 3) := by decide +kernel
theorem dX7_score_34 : decode cX7_score 34 = .ok (.getfield 104, 3) := by decide +kernel
theorem dX7_score_37 : decode cX7_score 37 = .ok (.if_icmp .le 7, 3) := by decide +kernel
theorem dX7_score_40 : decode cX7_score 40 = .ok (.ldc2_w 183, 3) := by decide +kernel
theorem dX7_score_43 : decode cX7_score 43 = .ok (.lreturn, 1) := by decide +kernel
theorem dX7_score_44 : decode cX7_score 44 = .ok (.aload_n 0, 1) := by decide +kernel
theorem dX7_score_45 : decode cX7_score 45 = .ok (.iconst 1, 1) := by decide +kernel
theorem dX7_score_46 : decode cX7_score 46 = .ok (.invokevirtual 235, 3) := by decide +kernel
theorem dX7_score_49 : decode cX7_score 49 = .ok (.aload_n 0, 1) := by decide +kernel
theorem dX7_score_50 : decode cX7_score 50 = .ok (.getfield 51, 3) := by decide +kernel
theorem dX7_score_53 : decode cX7_score 53 = .ok (.iload_n 1, 1) := by decide +kernel
theorem dX7_score_54 : decode cX7_score 54 = .ok (.iload_n 2, 1) := by decide +kernel
theorem dX7_score_55 : decode cX7_score 55 = .ok (.invokevirtual 245, 3) := by decide +kernel
theorem dX7_score_58 : decode cX7_score 58 = .ok (.lreturn, 1) := by decide +kernel
theorem dX7_likely_0 : decode cX7_likely 0 = .ok (.aload_n 0, 1) := by decide +kernel
theorem dX7_likely_1 : decode cX7_likely 1 = .ok (.getfield 26, 3) := by decide +kernel
theorem dX7_likely_4 : decode cX7_likely 4 = .ok (.getfield 104, 3) := by decide +kernel
theorem dX7_likely_7 : decode cX7_likely 7 = .ok (.ifCond .ne 5, 3) := by decide +kernel
theorem dX7_likely_10 : decode cX7_likely 10 = .ok (.iconst (-1), 1) := by decide +kernel
theorem dX7_likely_11 : decode cX7_likely 11 = .ok (.ireturn, 1) := by decide +kernel
theorem dX7_likely_12 : decode cX7_likely 12 = .ok (.aload_n 0, 1) := by decide +kernel
theorem dX7_likely_13 : decode cX7_likely 13 = .ok (.iconst 1, 1) := by decide +kernel
theorem dX7_likely_14 : decode cX7_likely 14 = .ok (.invokevirtual 235, 3) := by decide +kernel
theorem dX7_likely_17 : decode cX7_likely 17 = .ok (.iconst 0, 1) := by decide +kernel
theorem dX7_likely_18 : decode cX7_likely 18 = .ok (.istore_n 1, 1) := by decide +kernel
theorem dX7_likely_19 : decode cX7_likely 19 = .ok (.ldc2_w 183, 3) := by decide +kernel
theorem dX7_likely_22 : decode cX7_likely 22 = .ok (.lstore_n 2, 1) := by decide +kernel
theorem dX7_likely_23 : decode cX7_likely 23 = .ok (.iconst 0, 1) := by decide +kernel
theorem dX7_likely_24 : decode cX7_likely 24 = .ok (.istore 4, 2) := by decide +kernel
theorem dX7_likely_26 : decode cX7_likely 26 = .ok (.iload 4, 2) := by decide +kernel
theorem dX7_likely_28 : decode cX7_likely 28 = .ok (.aload_n 0, 1) := by decide +kernel
theorem dX7_likely_29 : decode cX7_likely 29 = .ok (.getfield 26, 3) := by decide +kernel
theorem dX7_likely_32 : decode cX7_likely 32 = .ok (.getfield 104, 3) := by decide +kernel
theorem dX7_likely_35 : decode cX7_likely 35 = .ok (.if_icmp .gt 62, 3) := by decide +kernel
theorem dX7_likely_38 : decode cX7_likely 38 = .ok (.iconst 0, 1) := by decide +kernel
theorem dX7_likely_39 : decode cX7_likely 39 = .ok (.istore 5, 2) := by decide +kernel
theorem dX7_likely_41 : decode cX7_likely 41 = .ok (.iload 5, 2) := by decide +kernel
theorem dX7_likely_43 : decode cX7_likely 43 = .ok (.aload_n 0, 1) := by decide +kernel
theorem dX7_likely_44 : decode cX7_likely 44 = .ok (.getfield 26, 3) := by decide +kernel
theorem dX7_likely_47 : decode cX7_likely 47 = .ok (.getfield 104, 3) := by decide +kernel
theorem dX7_likely_50 : decode cX7_likely 50 = .ok (.if_icmp .gt 41, 3) := by decide +kernel
theorem dX7_likely_53 : decode cX7_likely 53 = .ok (.aload_n 0, 1) := by decide +kernel
theorem dX7_likely_54 : decode cX7_likely 54 = .ok (.getfield 51, 3) := by decide +kernel
theorem dX7_likely_57 : decode cX7_likely 57 = .ok (.iload 4, 2) := by decide +kernel
theorem dX7_likely_59 : decode cX7_likely 59 = .ok (.iload 5, 2) := by decide +kernel
theorem dX7_likely_61 : decode cX7_likely 61 = .ok (.invokevirtual 245, 3) := by decide +kernel
theorem dX7_likely_64 : decode cX7_likely 64 = .ok (.lstore 6, 2) := by decide +kernel
theorem dX7_likely_66 : decode cX7_likely 66 = .ok (.lload 6, 2) := by decide +kernel
theorem dX7_likely_68 : decode cX7_likely 68 = .ok (.lload_n 2, 1) := by decide +kernel
theorem dX7_likely_69 : decode cX7_likely 69 = .ok (.lcmp, 1) := by decide +kernel
theorem dX7_likely_70 : decode cX7_likely 70 = .ok (.ifCond .le 15, 3) := by decide +kernel
theorem dX7_likely_73 : decode cX7_likely 73 = .ok (.lload 6, 2) := by decide +kernel
theorem dX7_likely_75 : decode cX7_likely 75 = .ok (.lstore_n 2, 1) := by decide +kernel
theorem dX7_likely_76 : decode cX7_likely 76 = .ok (.bipush 10, 2) := by decide +kernel
theorem dX7_likely_78 : decode cX7_likely 78 = .ok (.iload 4, 2) := by decide +kernel
theorem dX7_likely_80 : decode cX7_likely 80 = .ok (.imul, 1) := by decide +kernel
theorem dX7_likely_81 : decode cX7_likely 81 = .ok (.iload 5, 2) := by decide +kernel
theorem dX7_likely_83 : decode cX7_likely 83 = .ok (.iadd, 1) := by decide +kernel
theorem dX7_likely_84 : decode cX7_likely 84 = .ok (.istore_n 1, 1) := by decide +kernel
theorem dX7_likely_85 : decode cX7_likely 85 = .ok (.iinc 5 1, 3) := by decide +kernel
theorem dX7_likely_88 : decode cX7_likely 88 = .ok (.goto (-47), 3) := by decide +kernel
theorem dX7_likely_91 : decode cX7_likely 91 = .ok (.iinc 4 1, 3) := by decide +kernel
theorem dX7_likely_94 : decode cX7_likely 94 = .ok (.goto (-68), 3) := by decide +kernel
theorem dX7_likely_97 : decode cX7_likely 97 = .ok (.iload_n 1, 1) := by decide +kernel
theorem dX7_likely_98 : decode cX7_likely 98 = .ok (.ireturn, 1) := by decide +kernel
theorem dX7_mean_0 : decode cX7_mean 0 = .ok (.aload_n 0, 1) := by decide +kernel
theorem dX7_mean_1 : decode cX7_mean 1 = .ok (.getfield 26, 3) := by decide +kernel
theorem dX7_mean_4 : decode cX7_mean 4 = .ok (.getfield 104, 3) := by decide +kernel
theorem dX7_mean_7 : decode cX7_mean 7 = .ok (.ifCond .eq 10, 3) := by decide +kernel
theorem dX7_mean_10 : decode cX7_mean 10 = .ok (.iload_n 1, 1) := by decide +kernel
theorem dX7_mean_11 : decode cX7_mean 11 = .ok (.invokestatic 180, 3) := by decide +kernel
theorem dX7_mean_14 : decode cX7_mean 14 = .ok (.ifCond .ne 7, 3) := by decide +kernel
theorem dX7_mean_17 : decode cX7_mean 17 = .ok (.ldc2_w 183, 3) := by decide +kernel
theorem dX7_mean_20 : decode cX7_mean 20 = .ok (.lreturn, 1) := by decide +kernel
theorem dX7_mean_21 : decode cX7_mean 21 = .ok (.aload_n 0, 1) := by decide +kernel
theorem dX7_mean_22 : decode cX7_mean 22 = .ok (.iconst 0, 1) := by decide +kernel
theorem dX7_mean_23 : decode cX7_mean 23 = .ok (.invokevirtual 235, 3) := by decide +kernel
theorem dX7_mean_26 : decode cX7_mean 26 = .ok (.iconst 2, 1) := by decide +kernel
theorem dX7_mean_27 : decode cX7_mean 27 = .ok (.aload_n 0, 1) := by decide +kernel
theorem dX7_mean_28 : decode cX7_mean 28 = .ok (.getfield 26, 3) := by decide +kernel
theorem dX7_mean_31 : decode cX7_mean 31 = .ok (.getfield 104, 3) := by decide +kernel
theorem dX7_mean_34 : decode cX7_mean 34 = .ok (.imul, 1) := by decide +kernel
theorem dX7_mean_35 : decode cX7_mean 35 = .ok (.istore_n 2, 1) := by decide +kernel
theorem dX7_mean_36 : decode cX7_mean 36 = .ok (.aload_n 0, 1) := by decide +kernel
theorem dX7_mean_37 : decode cX7_mean 37 = .ok (.getfield 51, 3) := by decide +kernel
theorem dX7_mean_40 : decode cX7_mean 40 = .ok (.getfield 239, 3) := by decide +kernel
theorem dX7_mean_43 : decode cX7_mean 43 = .ok (.iload_n 2, 1) := by decide +kernel
theorem dX7_mean_44 : decode cX7_mean 44 = .ok (.i2l, 1) := by decide +kernel
theorem dX7_mean_45 : decode cX7_mean 45 = .ok (.lmul, 1) := by decide +kernel
theorem dX7_mean_46 : decode cX7_mean 46 = .ok (.lstore_n 3, 1) := by decide +kernel
theorem dX7_mean_47 : decode cX7_mean 47 = .ok (.iconst 1, 1) := by decide +kernel
theorem dX7_mean_48 : decode cX7_mean 48 = .ok (.istore 5, 2) := by decide +kernel
theorem dX7_mean_50 : decode cX7_mean 50 = .ok (.iload 5, 2) := by decide +kernel
theorem dX7_mean_52 : decode cX7_mean 52 = .ok (.iload_n 2, 1) := by decide +kernel
theorem dX7_mean_53 : decode cX7_mean 53 = .ok (.if_icmp .gt 25, 3) := by decide +kernel
theorem dX7_mean_56 : decode cX7_mean 56 = .ok (.lload_n 3, 1) := by decide +kernel
theorem dX7_mean_57 : decode cX7_mean 57 = .ok (.aload_n 0, 1) := by decide +kernel
theorem dX7_mean_58 : decode cX7_mean 58 = .ok (.getfield 51, 3) := by decide +kernel
theorem dX7_mean_61 : decode cX7_mean 61 = .ok (.iload 5, 2) := by decide +kernel
theorem dX7_mean_63 : decode cX7_mean 63 = .ok (.invokevirtual 242, 3) := by decide +kernel
theorem dX7_mean_66 : decode cX7_mean 66 = .ok (.iload 5, 2) := by decide +kernel
theorem dX7_mean_68 : decode cX7_mean 68 = .ok (.i2l, 1) := by decide +kernel
theorem dX7_mean_69 : decode cX7_mean 69 = .ok (.lmul, 1) := by decide +kernel
theorem dX7_mean_70 : decode cX7_mean 70 = .ok (.ladd, 1) := by decide +kernel
theorem dX7_mean_71 : decode cX7_mean 71 = .ok (.lstore_n 3, 1) := by decide +kernel
theorem dX7_mean_72 : decode cX7_mean 72 = .ok (.iinc 5 1, 3) := by decide +kernel
theorem dX7_mean_75 : decode cX7_mean 75 = .ok (.goto (-25), 3) := by decide +kernel
theorem dX7_mean_78 : decode cX7_mean 78 = .ok (.aload_n 0, 1) := by decide +kernel
theorem dX7_mean_79 : decode cX7_mean 79 = .ok (.getfield 58, 3) := by decide +kernel
theorem dX7_mean_82 : decode cX7_mean 82 = .ok (.lload_n 3, 1) := by decide +kernel
theorem dX7_mean_83 : decode cX7_mean 83 = .ok (.iload_n 2, 1) := by decide +kernel
theorem dX7_mean_84 : decode cX7_mean 84 = .ok (.invokestatic 248, 3) := by decide +kernel
theorem dX7_mean_87 : decode cX7_mean 87 = .ok (.invokevirtual 202, 3) := by decide +kernel
theorem dX7_mean_90 : decode cX7_mean 90 = .ok (.aload_n 0, 1) := by decide +kernel
theorem dX7_mean_91 : decode cX7_mean 91 = .ok (.getfield 58, 3) := by decide +kernel
theorem dX7_mean_94 : decode cX7_mean 94 = .ok (.invokevirtual 208, 3) := by decide +kernel
theorem dX7_mean_97 : decode cX7_mean 97 = .ok (.aload_n 0, 1) := by decide +kernel
theorem dX7_mean_98 : decode cX7_mean 98 = .ok (.getfield 58, 3) := by decide +kernel
theorem dX7_mean_101 : decode cX7_mean 101 = .ok (.iload_n 1, 1) := by decide +kernel
theorem dX7_mean_102 : decode cX7_mean 102 = .ok (.invokevirtual 211, 3) := by decide +kernel
theorem dX7_mean_105 : decode cX7_mean 105 = .ok (.lreturn, 1) := by decide +kernel
theorem dX7_needs_0 : decode cX7_needs 0 = .ok (.aload_n 0, 1) := by decide +kernel
theorem dX7_needs_1 : decode cX7_needs 1 = .ok (.iload_n 1, 1) := by decide +kernel
theorem dX7_needs_2 : decode cX7_needs 2 = .ok (.invokevirtual 107, 3) := by decide +kernel
theorem dX7_needs_5 : decode cX7_needs 5 = .ok (.ifCond .eq 32, 3) := by decide +kernel
theorem dX7_needs_8 : decode cX7_needs 8 = .ok (.aload_n 0, 1) := by decide +kernel
theorem dX7_needs_9 : decode cX7_needs 9 = .ok (.getfield 26, 3) := by decide +kernel
theorem dX7_needs_12 : decode cX7_needs 12 = .ok (.invokevirtual 168, 3) := by decide +kernel
theorem dX7_needs_15 : decode cX7_needs 15 = .ok (.ifCond .ne 22, 3) := by decide +kernel
theorem dX7_needs_18 : decode cX7_needs 18 = .ok (.aload_n 0, 1) := by decide +kernel
theorem dX7_needs_19 : decode cX7_needs 19 = .ok (.getfield 26, 3) := by decide +kernel
theorem dX7_needs_22 : decode cX7_needs 22 = .ok (.getfield 152, 3) := by decide +kernel
theorem dX7_needs_25 : decode cX7_needs 25 = .ok (.iconst 2, 1) := by decide +kernel
theorem dX7_needs_26 : decode cX7_needs 26 = .ok (.aload_n 0, 1) := by decide +kernel
theorem dX7_needs_27 : decode cX7_needs 27 = .ok (.getfield 26, 3) := by decide +kernel
theorem dX7_needs_30 : decode cX7_needs 30 = .ok (.getfield 104, 3) := by decide +kernel
theorem dX7_needs_33 : decode cX7_needs 33 = .ok (.imul, 1) := by decide +kernel
theorem dX7_needs_34 : decode cX7_needs 34 = .ok (.if_icmp .lt 5, 3) := by decide +kernel
theorem dX7_needs_37 : decode cX7_needs 37 = .ok (.iconst (-1), 1) := by decide +kernel
theorem dX7_needs_38 : decode cX7_needs 38 = .ok (.ireturn, 1) := by decide +kernel
theorem dX7_needs_39 : decode cX7_needs 39 = .ok (.aload_n 0, 1) := by decide +kernel
theorem dX7_needs_40 : decode cX7_needs 40 = .ok (.getfield 26, 3) := by decide +kernel
theorem dX7_needs_43 : decode cX7_needs 43 = .ok (.iconst 1, 1) := by decide +kernel
theorem dX7_needs_44 : decode cX7_needs 44 = .ok (.iload_n 1, 1) := by decide +kernel
theorem dX7_needs_45 : decode cX7_needs 45 = .ok (.isub, 1) := by decide +kernel
theorem dX7_needs_46 : decode cX7_needs 46 = .ok (.invokevirtual 115, 3) := by decide +kernel
theorem dX7_needs_49 : decode cX7_needs 49 = .ok (.aload_n 0, 1) := by decide +kernel
theorem dX7_needs_50 : decode cX7_needs 50 = .ok (.getfield 26, 3) := by decide +kernel
theorem dX7_needs_53 : decode cX7_needs 53 = .ok (.getfield 104, 3) := by decide +kernel
theorem dX7_needs_56 : decode cX7_needs 56 = .ok (.iadd, 1) := by decide +kernel
theorem dX7_needs_57 : decode cX7_needs 57 = .ok (.aload_n 0, 1) := by decide +kernel
theorem dX7_needs_58 : decode cX7_needs 58 = .ok (.getfield 26, 3) := by decide +kernel
theorem dX7_needs_61 : decode cX7_needs 61 = .ok (.iconst 1, 1) := by decide +kernel
theorem dX7_needs_62 : decode cX7_needs 62 = .ok (.iload_n 1, 1) := by decide +kernel
theorem dX7_needs_63 : decode cX7_needs 63 = .ok (.isub, 1) := by decide +kernel
theorem dX7_needs_64 : decode cX7_needs 64 = .ok (.invokevirtual 119, 3) := by decide +kernel
theorem dX7_needs_67 : decode cX7_needs 67 = .ok (.isub, 1) := by decide +kernel
theorem dX7_needs_68 : decode cX7_needs 68 = .ok (.istore_n 2, 1) := by decide +kernel
theorem dX7_needs_69 : decode cX7_needs 69 = .ok (.iload_n 2, 1) := by decide +kernel
theorem dX7_needs_70 : decode cX7_needs 70 = .ok (.iconst 1, 1) := by decide +kernel
theorem dX7_needs_71 : decode cX7_needs 71 = .ok (.iadd, 1) := by decide +kernel
theorem dX7_needs_72 : decode cX7_needs 72 = .ok (.aload_n 0, 1) := by decide +kernel
theorem dX7_needs_73 : decode cX7_needs 73 = .ok (.getfield 26, 3) := by decide +kernel
theorem dX7_needs_76 : decode cX7_needs 76 = .ok (.iload_n 1, 1) := by decide +kernel
theorem dX7_needs_77 : decode cX7_needs 77 = .ok (.invokevirtual 115, 3) := by decide +kernel
theorem dX7_needs_80 : decode cX7_needs 80 = .ok (.isub, 1) := by decide +kernel
theorem dX7_needs_81 : decode cX7_needs 81 = .ok (.istore_n 3, 1) := by decide +kernel
theorem dX7_needs_82 : decode cX7_needs 82 = .ok (.iload_n 3, 1) := by decide +kernel
theorem dX7_needs_83 : decode cX7_needs 83 = .ok (.aload_n 0, 1) := by decide +kernel
theorem dX7_needs_84 : decode cX7_needs 84 = .ok (.getfield 26, 3) := by decide +kernel
theorem dX7_needs_87 : decode cX7_needs 87 = .ok (.getfield 104, 3) := by decide +kernel
theorem dX7_needs_90 : decode cX7_needs 90 = .ok (.aload_n 0, 1) := by decide +kernel
theorem dX7_needs_91 : decode cX7_needs 91 = .ok (.getfield 26, 3) := by decide +kernel
theorem dX7_needs_94 : decode cX7_needs 94 = .ok (.iload_n 1, 1) := by decide +kernel
theorem dX7_needs_95 : decode cX7_needs 95 = .ok (.invokevirtual 119, 3) := by decide +kernel
theorem dX7_needs_98 : decode cX7_needs 98 = .ok (.isub, 1) := by decide +kernel
theorem dX7_needs_99 : decode cX7_needs 99 = .ok (.if_icmp .le 8, 3) := by decide +kernel
theorem dX7_needs_102 : decode cX7_needs 102 = .ok (.bipush (-2), 2) := by decide +kernel
theorem dX7_needs_104 : decode cX7_needs 104 = .ok (.goto 4, 3) := by decide +kernel
theorem dX7_needs_107 : decode cX7_needs 107 = .ok (.iload_n 3, 1) := by decide +kernel
theorem dX7_needs_108 : decode cX7_needs 108 = .ok (.ireturn, 1) := by decide +kernel
theorem dX7_oddsOf_0 : decode cX7_oddsOf 0 = .ok (.aload_n 0, 1) := by decide +kernel
theorem dX7_oddsOf_1 : decode cX7_oddsOf 1 = .ok (.iload_n 1, 1) := by decide +kernel
theorem dX7_oddsOf_2 : decode cX7_oddsOf 2 = .ok (.invokevirtual 107, 3) := by decide +kernel
theorem dX7_oddsOf_5 : decode cX7_oddsOf 5 = .ok (.ifCond .eq 24, 3) := by decide +kernel
theorem dX7_oddsOf_8 : decode cX7_oddsOf 8 = .ok (.iload_n 3, 1) := by decide +kernel
theorem dX7_oddsOf_9 : decode cX7_oddsOf 9 = .ok (.invokestatic 180, 3) := by decide +kernel
theorem dX7_oddsOf_12 : decode cX7_oddsOf 12 = .ok (.ifCond .eq 17, 3) := by decide +kernel
theorem dX7_oddsOf_15 : decode cX7_oddsOf 15 = .ok (.iload_n 2, 1) := by decide +kernel
theorem dX7_oddsOf_16 : decode cX7_oddsOf 16 = .ok (.aload_n 0, 1) := by decide +kernel
theorem dX7_oddsOf_17 : decode cX7_oddsOf 17 = .ok (.getfield 26, 3) := by decide +kernel
theorem dX7_oddsOf_20 : decode cX7_oddsOf 20 = .ok (.getfield 104, 3) := by decide +kernel
theorem dX7_oddsOf_23 : decode cX7_oddsOf 23 = .ok (.invokestatic 251, 3) := by decide +kernel
theorem dX7_oddsOf_26 : decode cX7_oddsOf 26 = .ok (.ifCond .ne 7, 3) := by decide +kernel
theorem dX7_oddsOf_29 : decode cX7_oddsOf 29 = .ok (.ldc2_w 183, 3) := by decide +kernel
theorem dX7_oddsOf_32 : decode cX7_oddsOf 32 = .ok (.lreturn, 1) := by decide +kernel
theorem dX7_oddsOf_33 : decode cX7_oddsOf 33 = .ok (.aload_n 0, 1) := by decide +kernel
theorem dX7_oddsOf_34 : decode cX7_oddsOf 34 = .ok (.invokevirtual 255, 3) := by decide +kernel
theorem dX7_oddsOf_37 : decode cX7_oddsOf 37 = .ok (.aload_n 0, 1) := by decide +kernel
theorem dX7_oddsOf_38 : decode cX7_oddsOf 38 = .ok (.iload_n 1, 1) := by decide +kernel
theorem dX7_oddsOf_39 : decode cX7_oddsOf 39 = .ok (.iload_n 2, 1) := by decide +kernel
theorem dX7_oddsOf_40 : decode cX7_oddsOf 40 = .ok (.invokevirtual 258, 3) := by decide +kernel
theorem dX7_oddsOf_43 : decode cX7_oddsOf 43 = .ok (.aload_n 0, 1) := by decide +kernel
theorem dX7_oddsOf_44 : decode cX7_oddsOf 44 = .ok (.getfield 51, 3) := by decide +kernel
theorem dX7_oddsOf_47 : decode cX7_oddsOf 47 = .ok (.aload_n 0, 1) := by decide +kernel
theorem dX7_oddsOf_48 : decode cX7_oddsOf 48 = .ok (.getfield 30, 3) := by decide +kernel
theorem dX7_oddsOf_51 : decode cX7_oddsOf 51 = .ok (.invokevirtual 185, 3) := by decide +kernel
theorem dX7_oddsOf_54 : decode cX7_oddsOf 54 = .ok (.aload_n 0, 1) := by decide +kernel
theorem dX7_oddsOf_55 : decode cX7_oddsOf 55 = .ok (.iload_n 1, 1) := by decide +kernel
theorem dX7_oddsOf_56 : decode cX7_oddsOf 56 = .ok (.iload_n 3, 1) := by decide +kernel
theorem dX7_oddsOf_57 : decode cX7_oddsOf 57 = .ok (.invokevirtual 188, 3) := by decide +kernel
theorem dX7_oddsOf_60 : decode cX7_oddsOf 60 = .ok (.lreturn, 1) := by decide +kernel
theorem dX7_best_0 : decode cX7_best 0 = .ok (.aload_n 0, 1) := by decide +kernel
theorem dX7_best_1 : decode cX7_best 1 = .ok (.iload_n 1, 1) := by decide +kernel
theorem dX7_best_2 : decode cX7_best 2 = .ok (.invokevirtual 107, 3) := by decide +kernel
theorem dX7_best_5 : decode cX7_best 5 = .ok (.ifCond .ne 5, 3) := by decide +kernel
theorem dX7_best_8 : decode cX7_best 8 = .ok (.iconst (-1), 1) := by decide +kernel
theorem dX7_best_9 : decode cX7_best 9 = .ok (.ireturn, 1) := by decide +kernel
theorem dX7_best_10 : decode cX7_best 10 = .ok (.aload_n 0, 1) := by decide +kernel
theorem dX7_best_11 : decode cX7_best 11 = .ok (.invokevirtual 255, 3) := by decide +kernel
theorem dX7_best_14 : decode cX7_best 14 = .ok (.iconst (-1), 1) := by decide +kernel
theorem dX7_best_15 : decode cX7_best 15 = .ok (.istore_n 2, 1) := by decide +kernel
theorem dX7_best_16 : decode cX7_best 16 = .ok (.aload_n 0, 1) := by decide +kernel
theorem dX7_best_17 : decode cX7_best 17 = .ok (.getfield 26, 3) := by decide +kernel
theorem dX7_best_20 : decode cX7_best 20 = .ok (.getfield 104, 3) := by decide +kernel
theorem dX7_best_23 : decode cX7_best 23 = .ok (.invokestatic 261, 3) := by decide +kernel
theorem dX7_best_26 : decode cX7_best 26 = .ok (.istore_n 3, 1) := by decide +kernel
theorem dX7_best_27 : decode cX7_best 27 = .ok (.iconst 0, 1) := by decide +kernel
theorem dX7_best_28 : decode cX7_best 28 = .ok (.istore 4, 2) := by decide +kernel
theorem dX7_best_30 : decode cX7_best 30 = .ok (.iload 4, 2) := by decide +kernel
theorem dX7_best_32 : decode cX7_best 32 = .ok (.iload_n 3, 1) := by decide +kernel
theorem dX7_best_33 : decode cX7_best 33 = .ok (.if_icmp .ge 86, 3) := by decide +kernel
theorem dX7_best_36 : decode cX7_best 36 = .ok (.iload 4, 2) := by decide +kernel
theorem dX7_best_38 : decode cX7_best 38 = .ok (.aload_n 0, 1) := by decide +kernel
theorem dX7_best_39 : decode cX7_best 39 = .ok (.getfield 26, 3) := by decide +kernel
theorem dX7_best_42 : decode cX7_best 42 = .ok (.getfield 104, 3) := by decide +kernel
theorem dX7_best_45 : decode cX7_best 45 = .ok (.invokestatic 264, 3) := by decide +kernel
theorem dX7_best_48 : decode cX7_best 48 = .ok (.istore 5, 2) := by decide +kernel
theorem dX7_best_50 : decode cX7_best 50 = .ok (.aload_n 0, 1) := by decide +kernel
theorem dX7_best_51 : decode cX7_best 51 = .ok (.iload_n 1, 1) := by decide +kernel
theorem dX7_best_52 : decode cX7_best 52 = .ok (.iload 5, 2) := by decide +kernel
theorem dX7_best_54 : decode cX7_best 54 = .ok (.invokevirtual 258, 3) := by decide +kernel
theorem dX7_best_57 : decode cX7_best 57 = .ok (.aload_n 0, 1) := by decide +kernel
theorem dX7_best_58 : decode cX7_best 58 = .ok (.getfield 51, 3) := by decide +kernel
theorem dX7_best_61 : decode cX7_best 61 = .ok (.aload_n 0, 1) := by decide +kernel
theorem dX7_best_62 : decode cX7_best 62 = .ok (.getfield 30, 3) := by decide +kernel
theorem dX7_best_65 : decode cX7_best 65 = .ok (.invokevirtual 185, 3) := by decide +kernel
theorem dX7_best_68 : decode cX7_best 68 = .ok (.iload 4, 2) := by decide +kernel
theorem dX7_best_70 : decode cX7_best 70 = .ok (.ifCond .eq 18, 3) := by decide +kernel
theorem dX7_best_73 : decode cX7_best 73 = .ok (.aload_n 0, 1) := by decide +kernel
theorem dX7_best_74 : decode cX7_best 74 = .ok (.getfield 51, 3) := by decide +kernel
theorem dX7_best_77 : decode cX7_best 77 = .ok (.iload_n 1, 1) := by decide +kernel
theorem dX7_best_78 : decode cX7_best 78 = .ok (.aload_n 0, 1) := by decide +kernel
theorem dX7_best_79 : decode cX7_best 79 = .ok (.getfield 62, 3) := by decide +kernel
theorem dX7_best_82 : decode cX7_best 82 = .ok (.invokevirtual 267, 3) := by decide +kernel
theorem dX7_best_85 : decode cX7_best 85 = .ok (.ifCond .le 28, 3) := by decide +kernel
theorem dX7_best_88 : decode cX7_best 88 = .ok (.aload_n 0, 1) := by decide +kernel
theorem dX7_best_89 : decode cX7_best 89 = .ok (.getfield 62, 3) := by decide +kernel
theorem dX7_best_92 : decode cX7_best 92 = .ok (.aload_n 0, 1) := by decide +kernel
theorem dX7_best_93 : decode cX7_best 93 = .ok (.getfield 51, 3) := by decide +kernel
theorem dX7_best_96 : decode cX7_best 96 = .ok (.iload_n 1, 1) := by decide +kernel
theorem dX7_best_97 : decode cX7_best 97 = .ok (.invokevirtual 194, 3) := by decide +kernel
theorem dX7_best_100 : decode cX7_best 100 = .ok (.aload_n 0, 1) := by decide +kernel
theorem dX7_best_101 : decode cX7_best 101 = .ok (.getfield 51, 3) := by decide +kernel
theorem dX7_best_104 : decode cX7_best 104 = .ok (.getfield 198, 3) := by decide +kernel
theorem dX7_best_107 : decode cX7_best 107 = .ok (.invokevirtual 202, 3) := by decide +kernel
theorem dX7_best_110 : decode cX7_best 110 = .ok (.iload 5, 2) := by decide +kernel
theorem dX7_best_112 : decode cX7_best 112 = .ok (.istore_n 2, 1) := by decide +kernel
theorem dX7_best_113 : decode cX7_best 113 = .ok (.iinc 4 1, 3) := by decide +kernel
theorem dX7_best_116 : decode cX7_best 116 = .ok (.goto (-86), 3) := by decide +kernel
theorem dX7_best_119 : decode cX7_best 119 = .ok (.iload_n 2, 1) := by decide +kernel
theorem dX7_best_120 : decode cX7_best 120 = .ok (.ireturn, 1) := by decide +kernel
theorem dX7_climbed_0 : decode cX7_climbed 0 = .ok (.aload_n 0, 1) := by decide +kernel
theorem dX7_climbed_1 : decode cX7_climbed 1 = .ok (.iload_n 1, 1) := by decide +kernel
theorem dX7_climbed_2 : decode cX7_climbed 2 = .ok (.invokevirtual 107, 3) := by decide +kernel
theorem dX7_climbed_5 : decode cX7_climbed 5 = .ok (.ifCond .eq 10, 3) := by decide +kernel
theorem dX7_climbed_8 : decode cX7_climbed 8 = .ok (.iload_n 2, 1) := by decide +kernel
theorem dX7_climbed_9 : decode cX7_climbed 9 = .ok (.invokestatic 180, 3) := by decide +kernel
theorem dX7_climbed_12 : decode cX7_climbed 12 = .ok (.ifCond .ne 5, 3) := by decide +kernel
theorem dX7_climbed_15 : decode cX7_climbed 15 = .ok (.iconst (-1), 1) := by decide +kernel
theorem dX7_climbed_16 : decode cX7_climbed 16 = .ok (.ireturn, 1) := by decide +kernel
theorem dX7_climbed_17 : decode cX7_climbed 17 = .ok (.aload_n 0, 1) := by decide +kernel
theorem dX7_climbed_18 : decode cX7_climbed 18 = .ok (.invokevirtual 255, 3) := by decide +kernel
theorem dX7_climbed_21 : decode cX7_climbed 21 = .ok (.aload_n 0, 1) := by decide +kernel
theorem dX7_climbed_22 : decode cX7_climbed 22 = .ok (.getfield 51, 3) := by decide +kernel
theorem dX7_climbed_25 : decode cX7_climbed 25 = .ok (.aload_n 0, 1) := by decide +kernel
theorem dX7_climbed_26 : decode cX7_climbed 26 = .ok (.getfield 30, 3) := by decide +kernel
theorem dX7_climbed_29 : decode cX7_climbed 29 = .ok (.invokevirtual 185, 3) := by decide +kernel
theorem dX7_climbed_32 : decode cX7_climbed 32 = .ok (.aload_n 0, 1) := by decide +kernel
theorem dX7_climbed_33 : decode cX7_climbed 33 = .ok (.getfield 62, 3) := by decide +kernel
theorem dX7_climbed_36 : decode cX7_climbed 36 = .ok (.aload_n 0, 1) := by decide +kernel
theorem dX7_climbed_37 : decode cX7_climbed 37 = .ok (.getfield 51, 3) := by decide +kernel
theorem dX7_climbed_40 : decode cX7_climbed 40 = .ok (.iload_n 1, 1) := by decide +kernel
theorem dX7_climbed_41 : decode cX7_climbed 41 = .ok (.invokevirtual 194, 3) := by decide +kernel
theorem dX7_climbed_44 : decode cX7_climbed 44 = .ok (.aload_n 0, 1) := by decide +kernel
theorem dX7_climbed_45 : decode cX7_climbed 45 = .ok (.getfield 51, 3) := by decide +kernel
theorem dX7_climbed_48 : decode cX7_climbed 48 = .ok (.getfield 198, 3) := by decide +kernel
theorem dX7_climbed_51 : decode cX7_climbed 51 = .ok (.invokevirtual 202, 3) := by decide +kernel
theorem dX7_climbed_54 : decode cX7_climbed 54 = .ok (.iconst 0, 1) := by decide +kernel
theorem dX7_climbed_55 : decode cX7_climbed 55 = .ok (.aload_n 0, 1) := by decide +kernel
theorem dX7_climbed_56 : decode cX7_climbed 56 = .ok (.getfield 26, 3) := by decide +kernel
theorem dX7_climbed_59 : decode cX7_climbed 59 = .ok (.getfield 104, 3) := by decide +kernel
theorem dX7_climbed_62 : decode cX7_climbed 62 = .ok (.invokestatic 264, 3) := by decide +kernel
theorem dX7_climbed_65 : decode cX7_climbed 65 = .ok (.istore_n 3, 1) := by decide +kernel
theorem dX7_climbed_66 : decode cX7_climbed 66 = .ok (.iconst 0, 1) := by decide +kernel
theorem dX7_climbed_67 : decode cX7_climbed 67 = .ok (.istore 4, 2) := by decide +kernel
theorem dX7_climbed_69 : decode cX7_climbed 69 = .ok (.iload 4, 2) := by decide +kernel
theorem dX7_climbed_71 : decode cX7_climbed 71 = .ok (.bipush 120, 2) := by decide +kernel
theorem dX7_climbed_73 : decode cX7_climbed 73 = .ok (.if_icmp .ge 29, 3) := by decide +kernel
theorem dX7_climbed_76 : decode cX7_climbed 76 = .ok (.aload_n 0, 1) := by decide +kernel
theorem dX7_climbed_77 : decode cX7_climbed 77 = .ok (.iload_n 1, 1) := by decide +kernel
theorem dX7_climbed_78 : decode cX7_climbed 78 = .ok (.iload_n 3, 1) := by decide +kernel
theorem dX7_climbed_79 : decode cX7_climbed 79 = .ok (.invokevirtual 271, 3) := by decide +kernel
theorem dX7_climbed_82 : decode cX7_climbed 82 = .ok (.istore 5, 2) := by decide +kernel
theorem dX7_climbed_84 : decode cX7_climbed 84 = .ok (.iload 5, 2) := by decide +kernel
theorem dX7_climbed_86 : decode cX7_climbed 86 = .ok (.iload_n 3, 1) := by decide +kernel
theorem dX7_climbed_87 : decode cX7_climbed 87 = .ok (.if_icmp .ne 6, 3) := by decide +kernel
theorem dX7_climbed_90 : decode cX7_climbed 90 = .ok (.goto 12, 3) := by decide +kernel
theorem dX7_climbed_93 : decode cX7_climbed 93 = .ok (.iload 5, 2) := by decide +kernel
theorem dX7_climbed_95 : decode cX7_climbed 95 = .ok (.istore_n 3, 1) := by decide +kernel
theorem dX7_climbed_96 : decode cX7_climbed 96 = .ok (.iinc 4 1, 3) := by decide +kernel
theorem dX7_climbed_99 : decode cX7_climbed 99 = .ok (.goto (-30), 3) := by decide +kernel
theorem dX7_climbed_102 : decode cX7_climbed 102 = .ok (.iload_n 2, 1) := by decide +kernel
theorem dX7_climbed_103 : decode cX7_climbed 103 = .ok (.ifCond .ne 7, 3) := by decide +kernel
theorem dX7_climbed_106 : decode cX7_climbed 106 = .ok (.iload_n 3, 1) := by decide +kernel
theorem dX7_climbed_107 : decode cX7_climbed 107 = .ok (.goto 5, 3) := by decide +kernel
theorem dX7_climbed_110 : decode cX7_climbed 110 = .ok (.iload 4, 2) := by decide +kernel
theorem dX7_climbed_112 : decode cX7_climbed 112 = .ok (.ireturn, 1) := by decide +kernel
theorem dX7_rests_0 : decode cX7_rests 0 = .ok (.aload_n 0, 1) := by decide +kernel
theorem dX7_rests_1 : decode cX7_rests 1 = .ok (.getfield 26, 3) := by decide +kernel
theorem dX7_rests_4 : decode cX7_rests 4 = .ok (.getfield 104, 3) := by decide +kernel
theorem dX7_rests_7 : decode cX7_rests 7 = .ok (.ifCond .eq 12, 3) := by decide +kernel
theorem dX7_rests_10 : decode cX7_rests 10 = .ok (.iload_n 1, 1) := by decide +kernel
theorem dX7_rests_11 : decode cX7_rests 11 = .ok (.ifCond .lt 8, 3) := by decide +kernel
theorem dX7_rests_14 : decode cX7_rests 14 = .ok (.iload_n 1, 1) := by decide +kernel
theorem dX7_rests_15 : decode cX7_rests 15 = .ok (.iconst 2, 1) := by decide +kernel
theorem dX7_rests_16 : decode cX7_rests 16 = .ok (.if_icmp .le 5, 3) := by decide +kernel
theorem dX7_rests_19 : decode cX7_rests 19 = .ok (.iconst (-1), 1) := by decide +kernel
theorem dX7_rests_20 : decode cX7_rests 20 = .ok (.ireturn, 1) := by decide +kernel
theorem dX7_rests_21 : decode cX7_rests 21 = .ok (.aload_n 0, 1) := by decide +kernel
theorem dX7_rests_22 : decode cX7_rests 22 = .ok (.getfield 26, 3) := by decide +kernel
theorem dX7_rests_25 : decode cX7_rests 25 = .ok (.getfield 104, 3) := by decide +kernel
theorem dX7_rests_28 : decode cX7_rests 28 = .ok (.iconst 5, 1) := by decide +kernel
theorem dX7_rests_29 : decode cX7_rests 29 = .ok (.if_icmp .lt 6, 3) := by decide +kernel
theorem dX7_rests_32 : decode cX7_rests 32 = .ok (.bipush (-3), 2) := by decide +kernel
theorem dX7_rests_34 : decode cX7_rests 34 = .ok (.ireturn, 1) := by decide +kernel
theorem dX7_rests_35 : decode cX7_rests 35 = .ok (.aload_n 0, 1) := by decide +kernel
theorem dX7_rests_36 : decode cX7_rests 36 = .ok (.getfield 68, 3) := by decide +kernel
theorem dX7_rests_39 : decode cX7_rests 39 = .ok (.getfield 100, 3) := by decide +kernel
theorem dX7_rests_42 : decode cX7_rests 42 = .ok (.ifCond .ne 7, 3) := by decide +kernel
theorem dX7_rests_45 : decode cX7_rests 45 = .ok (.aload_n 0, 1) := by decide +kernel
theorem dX7_rests_46 : decode cX7_rests 46 = .ok (.invokevirtual 274, 3) := by decide +kernel
theorem dX7_rests_49 : decode cX7_rests 49 = .ok (.iload_n 1, 1) := by decide +kernel
theorem dX7_rests_50 : decode cX7_rests 50 = .ok (.ifCond .ne 11, 3) := by decide +kernel
theorem dX7_rests_53 : decode cX7_rests 53 = .ok (.aload_n 0, 1) := by decide +kernel
theorem dX7_rests_54 : decode cX7_rests 54 = .ok (.getfield 68, 3) := by decide +kernel
theorem dX7_rests_57 : decode cX7_rests 57 = .ok (.getfield 277, 3) := by decide +kernel
theorem dX7_rests_60 : decode cX7_rests 60 = .ok (.ireturn, 1) := by decide +kernel
theorem dX7_rests_61 : decode cX7_rests 61 = .ok (.aload_n 0, 1) := by decide +kernel
theorem dX7_rests_62 : decode cX7_rests 62 = .ok (.getfield 68, 3) := by decide +kernel
theorem dX7_rests_65 : decode cX7_rests 65 = .ok (.getfield 277, 3) := by decide +kernel
theorem dX7_rests_68 : decode cX7_rests 68 = .ok (.ifCond .ne 6, 3) := by decide +kernel
theorem dX7_rests_71 : decode cX7_rests 71 = .ok (.bipush (-2), 2) := by decide +kernel
theorem dX7_rests_73 : decode cX7_rests 73 = .ok (.ireturn, 1) := by decide +kernel
theorem dX7_rests_74 : decode cX7_rests 74 = .ok (.iload_n 1, 1) := by decide +kernel
theorem dX7_rests_75 : decode cX7_rests 75 = .ok (.iconst 1, 1) := by decide +kernel
theorem dX7_rests_76 : decode cX7_rests 76 = .ok (.if_icmp .ne 13, 3) := by decide +kernel
theorem dX7_rests_79 : decode cX7_rests 79 = .ok (.aload_n 0, 1) := by decide +kernel
theorem dX7_rests_80 : decode cX7_rests 80 = .ok (.getfield 68, 3) := by decide +kernel
theorem dX7_rests_83 : decode cX7_rests 83 = .ok (.getfield 280, 3) := by decide +kernel
theorem dX7_rests_86 : decode cX7_rests 86 = .ok (.goto 10, 3) := by decide +kernel
theorem dX7_rests_89 : decode cX7_rests 89 = .ok (.aload_n 0, 1) := by decide +kernel
theorem dX7_rests_90 : decode cX7_rests 90 = .ok (.getfield 68, 3) := by decide +kernel
theorem dX7_rests_93 : decode cX7_rests 93 = .ok (.getfield 283, 3) := by decide +kernel
theorem dX7_rests_96 : decode cX7_rests 96 = .ok (.ireturn, 1) := by decide +kernel
theorem dX7_guess_0 : decode cX7_guess 0 = .ok (.iload_n 1, 1) := by decide +kernel
theorem dX7_guess_1 : decode cX7_guess 1 = .ok (.invokestatic 286, 3) := by decide +kernel
theorem dX7_guess_4 : decode cX7_guess 4 = .ok (.ifCond .eq 28, 3) := by decide +kernel
theorem dX7_guess_7 : decode cX7_guess 7 = .ok (.iload_n 2, 1) := by decide +kernel
theorem dX7_guess_8 : decode cX7_guess 8 = .ok (.invokestatic 286, 3) := by decide +kernel
theorem dX7_guess_11 : decode cX7_guess 11 = .ok (.ifCond .eq 21, 3) := by decide +kernel
theorem dX7_guess_14 : decode cX7_guess 14 = .ok (.iload_n 3, 1) := by decide +kernel
theorem dX7_guess_15 : decode cX7_guess 15 = .ok (.invokestatic 286, 3) := by decide +kernel
theorem dX7_guess_18 : decode cX7_guess 18 = .ok (.ifCond .eq 14, 3) := by decide +kernel
theorem dX7_guess_21 : decode cX7_guess 21 = .ok (.iload 4, 2) := by decide +kernel
theorem dX7_guess_23 : decode cX7_guess 23 = .ok (.ifCond .lt 9, 3) := by decide +kernel
theorem dX7_guess_26 : decode cX7_guess 26 = .ok (.iload 4, 2) := by decide +kernel
theorem dX7_guess_28 : decode cX7_guess 28 = .ok (.iconst 3, 1) := by decide +kernel
theorem dX7_guess_29 : decode cX7_guess 29 = .ok (.if_icmp .le 5, 3) := by decide +kernel
theorem dX7_guess_32 : decode cX7_guess 32 = .ok (.iconst (-1), 1) := by decide +kernel
theorem dX7_guess_33 : decode cX7_guess 33 = .ok (.ireturn, 1) := by decide +kernel
theorem dX7_guess_34 : decode cX7_guess 34 = .ok (.aload_n 0, 1) := by decide +kernel
theorem dX7_guess_35 : decode cX7_guess 35 = .ok (.iload_n 1, 1) := by decide +kernel
theorem dX7_guess_36 : decode cX7_guess 36 = .ok (.iload_n 2, 1) := by decide +kernel
theorem dX7_guess_37 : decode cX7_guess 37 = .ok (.iload_n 3, 1) := by decide +kernel
theorem dX7_guess_38 : decode cX7_guess 38 = .ok (.invokevirtual 289, 3) := by decide +kernel
theorem dX7_guess_41 : decode cX7_guess 41 = .ok (.iload 4, 2) := by decide +kernel
theorem dX7_guess_43 : decode cX7_guess 43 = .ok (.iconst 2, 1) := by decide +kernel
theorem dX7_guess_44 : decode cX7_guess 44 = .ok (.if_icmp .ge 15, 3) := by decide +kernel
theorem dX7_guess_47 : decode cX7_guess 47 = .ok (.aload_n 0, 1) := by decide +kernel
theorem dX7_guess_48 : decode cX7_guess 48 = .ok (.getfield 58, 3) := by decide +kernel
theorem dX7_guess_51 : decode cX7_guess 51 = .ok (.iload 4, 2) := by decide +kernel
theorem dX7_guess_53 : decode cX7_guess 53 = .ok (.invokevirtual 211, 3) := by decide +kernel
theorem dX7_guess_56 : decode cX7_guess 56 = .ok (.goto 14, 3) := by decide +kernel
theorem dX7_guess_59 : decode cX7_guess 59 = .ok (.aload_n 0, 1) := by decide +kernel
theorem dX7_guess_60 : decode cX7_guess 60 = .ok (.getfield 62, 3) := by decide +kernel
theorem dX7_guess_63 : decode cX7_guess 63 = .ok (.iload 4, 2) := by decide +kernel
theorem dX7_guess_65 : decode cX7_guess 65 = .ok (.iconst 2, 1) := by decide +kernel
theorem dX7_guess_66 : decode cX7_guess 66 = .ok (.isub, 1) := by decide +kernel
theorem dX7_guess_67 : decode cX7_guess 67 = .ok (.invokevirtual 211, 3) := by decide +kernel
theorem dX7_guess_70 : decode cX7_guess 70 = .ok (.l2i, 1) := by decide +kernel
theorem dX7_guess_71 : decode cX7_guess 71 = .ok (.ireturn, 1) := by decide +kernel
theorem dX7_drawn_0 : decode cX7_drawn 0 = .ok (.iload_n 1, 1) := by decide +kernel
theorem dX7_drawn_1 : decode cX7_drawn 1 = .ok (.ifCond .lt 30, 3) := by decide +kernel
theorem dX7_drawn_4 : decode cX7_drawn 4 = .ok (.iload_n 1, 1) := by decide +kernel
theorem dX7_drawn_5 : decode cX7_drawn 5 = .ok (.ldc_w 292, 3) := by decide +kernel
theorem dX7_drawn_8 : decode cX7_drawn 8 = .ok (.if_icmp .gt 23, 3) := by decide +kernel
theorem dX7_drawn_11 : decode cX7_drawn 11 = .ok (.iload_n 2, 1) := by decide +kernel
theorem dX7_drawn_12 : decode cX7_drawn 12 = .ok (.iconst 1, 1) := by decide +kernel
theorem dX7_drawn_13 : decode cX7_drawn 13 = .ok (.if_icmp .lt 18, 3) := by decide +kernel
theorem dX7_drawn_16 : decode cX7_drawn 16 = .ok (.iload_n 2, 1) := by decide +kernel
theorem dX7_drawn_17 : decode cX7_drawn 17 = .ok (.bipush 100, 2) := by decide +kernel
theorem dX7_drawn_19 : decode cX7_drawn 19 = .ok (.if_icmp .gt 12, 3) := by decide +kernel
theorem dX7_drawn_22 : decode cX7_drawn 22 = .ok (.iload_n 3, 1) := by decide +kernel
theorem dX7_drawn_23 : decode cX7_drawn 23 = .ok (.ifCond .lt 8, 3) := by decide +kernel
theorem dX7_drawn_26 : decode cX7_drawn 26 = .ok (.iload_n 3, 1) := by decide +kernel
theorem dX7_drawn_27 : decode cX7_drawn 27 = .ok (.iconst 3, 1) := by decide +kernel
theorem dX7_drawn_28 : decode cX7_drawn 28 = .ok (.if_icmp .le 5, 3) := by decide +kernel
theorem dX7_drawn_31 : decode cX7_drawn 31 = .ok (.iconst (-1), 1) := by decide +kernel
theorem dX7_drawn_32 : decode cX7_drawn 32 = .ok (.ireturn, 1) := by decide +kernel
theorem dX7_drawn_33 : decode cX7_drawn 33 = .ok (.aload_n 0, 1) := by decide +kernel
theorem dX7_drawn_34 : decode cX7_drawn 34 = .ok (.getfield 26, 3) := by decide +kernel
theorem dX7_drawn_37 : decode cX7_drawn 37 = .ok (.getfield 104, 3) := by decide +kernel
theorem dX7_drawn_40 : decode cX7_drawn 40 = .ok (.ifCond .ne 6, 3) := by decide +kernel
theorem dX7_drawn_43 : decode cX7_drawn 43 = .ok (.bipush (-2), 2) := by decide +kernel
theorem dX7_drawn_45 : decode cX7_drawn 45 = .ok (.ireturn, 1) := by decide +kernel
theorem dX7_drawn_46 : decode cX7_drawn 46 = .ok (.iload_n 1, 1) := by decide +kernel
theorem dX7_drawn_47 : decode cX7_drawn 47 = .ok (.istore 4, 2) := by decide +kernel
theorem dX7_drawn_49 : decode cX7_drawn 49 = .ok (.iconst 0, 1) := by decide +kernel
theorem dX7_drawn_50 : decode cX7_drawn 50 = .ok (.istore 5, 2) := by decide +kernel
theorem dX7_drawn_52 : decode cX7_drawn 52 = .ok (.iconst 0, 1) := by decide +kernel
theorem dX7_drawn_53 : decode cX7_drawn 53 = .ok (.istore 6, 2) := by decide +kernel
theorem dX7_drawn_55 : decode cX7_drawn 55 = .ok (.iconst 0, 1) := by decide +kernel
theorem dX7_drawn_56 : decode cX7_drawn 56 = .ok (.istore 7, 2) := by decide +kernel
theorem dX7_drawn_58 : decode cX7_drawn 58 = .ok (.iload 7, 2) := by decide +kernel
theorem dX7_drawn_60 : decode cX7_drawn 60 = .ok (.iload_n 2, 1) := by decide +kernel
theorem dX7_drawn_61 : decode cX7_drawn 61 = .ok (.if_icmp .ge 63, 3) := by decide +kernel
theorem dX7_drawn_64 : decode cX7_drawn 64 = .ok (.aload_n 0, 1) := by decide +kernel
theorem dX7_drawn_65 : decode cX7_drawn 65 = .ok (.getfield 30, 3) := by decide +kernel
theorem dX7_drawn_68 : decode cX7_drawn 68 = .ok (.aload_n 0, 1) := by decide +kernel
theorem dX7_drawn_69 : decode cX7_drawn 69 = .ok (.getfield 26, 3) := by decide +kernel
theorem dX7_drawn_72 : decode cX7_drawn 72 = .ok (.invokevirtual 93, 3) := by decide +kernel
theorem dX7_drawn_75 : decode cX7_drawn 75 = .ok (.aload_n 0, 1) := by decide +kernel
theorem dX7_drawn_76 : decode cX7_drawn 76 = .ok (.iload 4, 2) := by decide +kernel
theorem dX7_drawn_78 : decode cX7_drawn 78 = .ok (.invokevirtual 293, 3) := by decide +kernel
theorem dX7_drawn_81 : decode cX7_drawn 81 = .ok (.istore 4, 2) := by decide +kernel
theorem dX7_drawn_83 : decode cX7_drawn 83 = .ok (.iload 5, 2) := by decide +kernel
theorem dX7_drawn_85 : decode cX7_drawn 85 = .ok (.aload_n 0, 1) := by decide +kernel
theorem dX7_drawn_86 : decode cX7_drawn 86 = .ok (.getfield 30, 3) := by decide +kernel
theorem dX7_drawn_89 : decode cX7_drawn 89 = .ok (.invokevirtual 296, 3) := by decide +kernel
theorem dX7_drawn_92 : decode cX7_drawn 92 = .ok (.iload_n 3, 1) := by decide +kernel
theorem dX7_drawn_93 : decode cX7_drawn 93 = .ok (.if_icmp .ne 7, 3) := by decide +kernel
theorem dX7_drawn_96 : decode cX7_drawn 96 = .ok (.iconst 1, 1) := by decide +kernel
theorem dX7_drawn_97 : decode cX7_drawn 97 = .ok (.goto 4, 3) := by decide +kernel
theorem dX7_drawn_100 : decode cX7_drawn 100 = .ok (.iconst 0, 1) := by decide +kernel
theorem dX7_drawn_101 : decode cX7_drawn 101 = .ok (.iadd, 1) := by decide +kernel
theorem dX7_drawn_102 : decode cX7_drawn 102 = .ok (.istore 5, 2) := by decide +kernel
theorem dX7_drawn_104 : decode cX7_drawn 104 = .ok (.iload 6, 2) := by decide +kernel
theorem dX7_drawn_106 : decode cX7_drawn 106 = .ok (.aload_n 0, 1) := by decide +kernel
theorem dX7_drawn_107 : decode cX7_drawn 107 = .ok (.getfield 30, 3) := by decide +kernel
theorem dX7_drawn_110 : decode cX7_drawn 110 = .ok (.getfield 152, 3) := by decide +kernel
theorem dX7_drawn_113 : decode cX7_drawn 113 = .ok (.invokestatic 299, 3) := by decide +kernel
theorem dX7_drawn_116 : decode cX7_drawn 116 = .ok (.istore 6, 2) := by decide +kernel
theorem dX7_drawn_118 : decode cX7_drawn 118 = .ok (.iinc 7 1, 3) := by decide +kernel
theorem dX7_drawn_121 : decode cX7_drawn 121 = .ok (.goto (-63), 3) := by decide +kernel
theorem dX7_drawn_124 : decode cX7_drawn 124 = .ok (.iload_n 3, 1) := by decide +kernel
theorem dX7_drawn_125 : decode cX7_drawn 125 = .ok (.iconst 3, 1) := by decide +kernel
theorem dX7_drawn_126 : decode cX7_drawn 126 = .ok (.if_icmp .ne 8, 3) := by decide +kernel
theorem dX7_drawn_129 : decode cX7_drawn 129 = .ok (.iload 6, 2) := by decide +kernel
theorem dX7_drawn_131 : decode cX7_drawn 131 = .ok (.goto 5, 3) := by decide +kernel
theorem dX7_drawn_134 : decode cX7_drawn 134 = .ok (.iload 5, 2) := by decide +kernel
theorem dX7_drawn_136 : decode cX7_drawn 136 = .ok (.ireturn, 1) := by decide +kernel
theorem dX7_undo_0 : decode cX7_undo 0 = .ok (.aload_n 0, 1) := by decide +kernel
theorem dX7_undo_1 : decode cX7_undo 1 = .ok (.getfield 26, 3) := by decide +kernel
theorem dX7_undo_4 : decode cX7_undo 4 = .ok (.getfield 104, 3) := by decide +kernel
theorem dX7_undo_7 : decode cX7_undo 7 = .ok (.ifCond .ne 6, 3) := by decide +kernel
theorem dX7_undo_10 : decode cX7_undo 10 = .ok (.bipush (-2), 2) := by decide +kernel
theorem dX7_undo_12 : decode cX7_undo 12 = .ok (.ireturn, 1) := by decide +kernel
theorem dX7_undo_13 : decode cX7_undo 13 = .ok (.aload_n 0, 1) := by decide +kernel
theorem dX7_undo_14 : decode cX7_undo 14 = .ok (.getfield 36, 3) := by decide +kernel
theorem dX7_undo_17 : decode cX7_undo 17 = .ok (.aload_n 0, 1) := by decide +kernel
theorem dX7_undo_18 : decode cX7_undo 18 = .ok (.getfield 26, 3) := by decide +kernel
theorem dX7_undo_21 : decode cX7_undo 21 = .ok (.invokevirtual 304, 3) := by decide +kernel
theorem dX7_undo_24 : decode cX7_undo 24 = .ok (.ifCond .ne 6, 3) := by decide +kernel
theorem dX7_undo_27 : decode cX7_undo 27 = .ok (.bipush (-3), 2) := by decide +kernel
theorem dX7_undo_29 : decode cX7_undo 29 = .ok (.ireturn, 1) := by decide +kernel
theorem dX7_undo_30 : decode cX7_undo 30 = .ok (.aload_n 0, 1) := by decide +kernel
theorem dX7_undo_31 : decode cX7_undo 31 = .ok (.getfield 68, 3) := by decide +kernel
theorem dX7_undo_34 : decode cX7_undo 34 = .ok (.iconst 0, 1) := by decide +kernel
theorem dX7_undo_35 : decode cX7_undo 35 = .ok (.putfield 100, 3) := by decide +kernel
theorem dX7_undo_38 : decode cX7_undo 38 = .ok (.aload_n 0, 1) := by decide +kernel
theorem dX7_undo_39 : decode cX7_undo 39 = .ok (.getfield 36, 3) := by decide +kernel
theorem dX7_undo_42 : decode cX7_undo 42 = .ok (.getfield 308, 3) := by decide +kernel
theorem dX7_undo_45 : decode cX7_undo 45 = .ok (.ireturn, 1) := by decide +kernel
theorem dX7_keep_0 : decode cX7_keep 0 = .ok (.iload_n 1, 1) := by decide +kernel
theorem dX7_keep_1 : decode cX7_keep 1 = .ok (.ifCond .lt 18, 3) := by decide +kernel
theorem dX7_keep_4 : decode cX7_keep 4 = .ok (.iload_n 1, 1) := by decide +kernel
theorem dX7_keep_5 : decode cX7_keep 5 = .ok (.iconst 2, 1) := by decide +kernel
theorem dX7_keep_6 : decode cX7_keep 6 = .ok (.if_icmp .ge 13, 3) := by decide +kernel
theorem dX7_keep_9 : decode cX7_keep 9 = .ok (.aload_n 0, 1) := by decide +kernel
theorem dX7_keep_10 : decode cX7_keep 10 = .ok (.getfield 26, 3) := by decide +kernel
theorem dX7_keep_13 : decode cX7_keep 13 = .ok (.getfield 104, 3) := by decide +kernel
theorem dX7_keep_16 : decode cX7_keep 16 = .ok (.ifCond .ne 5, 3) := by decide +kernel
theorem dX7_keep_19 : decode cX7_keep 19 = .ok (.iconst 0, 1) := by decide +kernel
theorem dX7_keep_20 : decode cX7_keep 20 = .ok (.ireturn, 1) := by decide +kernel
theorem dX7_keep_21 : decode cX7_keep 21 = .ok (.aload_n 0, 1) := by decide +kernel
theorem dX7_keep_22 : decode cX7_keep 22 = .ok (.getfield 40, 3) := by decide +kernel
theorem dX7_keep_25 : decode cX7_keep 25 = .ok (.iload_n 1, 1) := by decide +kernel
theorem dX7_keep_26 : decode cX7_keep 26 = .ok (.aaload, 1) := by decide +kernel
theorem dX7_keep_27 : decode cX7_keep 27 = .ok (.aload_n 0, 1) := by decide +kernel
theorem dX7_keep_28 : decode cX7_keep 28 = .ok (.getfield 26, 3) := by decide +kernel
theorem dX7_keep_31 : decode cX7_keep 31 = .ok (.invokevirtual 93, 3) := by decide +kernel
theorem dX7_keep_34 : decode cX7_keep 34 = .ok (.aload_n 0, 1) := by decide +kernel
theorem dX7_keep_35 : decode cX7_keep 35 = .ok (.getfield 44, 3) := by decide +kernel
theorem dX7_keep_38 : decode cX7_keep 38 = .ok (.iload_n 1, 1) := by decide +kernel
theorem dX7_keep_39 : decode cX7_keep 39 = .ok (.iconst 1, 1) := by decide +kernel
theorem dX7_keep_40 : decode cX7_keep 40 = .ok (.bastore, 1) := by decide +kernel
theorem dX7_keep_41 : decode cX7_keep 41 = .ok (.iconst 1, 1) := by decide +kernel
theorem dX7_keep_42 : decode cX7_keep 42 = .ok (.ireturn, 1) := by decide +kernel
theorem dX7_again_0 : decode cX7_again 0 = .ok (.iload_n 1, 1) := by decide +kernel
theorem dX7_again_1 : decode cX7_again 1 = .ok (.ifCond .lt 17, 3) := by decide +kernel
theorem dX7_again_4 : decode cX7_again 4 = .ok (.iload_n 1, 1) := by decide +kernel
theorem dX7_again_5 : decode cX7_again 5 = .ok (.iconst 2, 1) := by decide +kernel
theorem dX7_again_6 : decode cX7_again 6 = .ok (.if_icmp .ge 12, 3) := by decide +kernel
theorem dX7_again_9 : decode cX7_again 9 = .ok (.aload_n 0, 1) := by decide +kernel
theorem dX7_again_10 : decode cX7_again 10 = .ok (.getfield 44, 3) := by decide +kernel
theorem dX7_again_13 : decode cX7_again 13 = .ok (.iload_n 1, 1) := by decide +kernel
theorem dX7_again_14 : decode cX7_again 14 = .ok (.baload, 1) := by decide +kernel
theorem dX7_again_15 : decode cX7_again 15 = .ok (.ifCond .ne 5, 3) := by decide +kernel
theorem dX7_again_18 : decode cX7_again 18 = .ok (.iconst 0, 1) := by decide +kernel
theorem dX7_again_19 : decode cX7_again 19 = .ok (.ireturn, 1) := by decide +kernel
theorem dX7_again_20 : decode cX7_again 20 = .ok (.aload_n 0, 1) := by decide +kernel
theorem dX7_again_21 : decode cX7_again 21 = .ok (.invokevirtual 130, 3) := by decide +kernel
theorem dX7_again_24 : decode cX7_again 24 = .ok (.aload_n 0, 1) := by decide +kernel
theorem dX7_again_25 : decode cX7_again 25 = .ok (.getfield 26, 3) := by decide +kernel
theorem dX7_again_28 : decode cX7_again 28 = .ok (.aload_n 0, 1) := by decide +kernel
theorem dX7_again_29 : decode cX7_again 29 = .ok (.getfield 40, 3) := by decide +kernel
theorem dX7_again_32 : decode cX7_again 32 = .ok (.iload_n 1, 1) := by decide +kernel
theorem dX7_again_33 : decode cX7_again 33 = .ok (.aaload, 1) := by decide +kernel
theorem dX7_again_34 : decode cX7_again 34 = .ok (.invokevirtual 93, 3) := by decide +kernel
theorem dX7_again_37 : decode cX7_again 37 = .ok (.iconst 1, 1) := by decide +kernel
theorem dX7_again_38 : decode cX7_again 38 = .ok (.ireturn, 1) := by decide +kernel
theorem dX7_made_0 : decode cX7_made 0 = .ok (.iload_n 1, 1) := by decide +kernel
theorem dX7_made_1 : decode cX7_made 1 = .ok (.ifCond .lt 14, 3) := by decide +kernel
theorem dX7_made_4 : decode cX7_made 4 = .ok (.iload_n 1, 1) := by decide +kernel
theorem dX7_made_5 : decode cX7_made 5 = .ok (.aload_n 0, 1) := by decide +kernel
theorem dX7_made_6 : decode cX7_made 6 = .ok (.getfield 26, 3) := by decide +kernel
theorem dX7_made_9 : decode cX7_made 9 = .ok (.getfield 152, 3) := by decide +kernel
theorem dX7_made_12 : decode cX7_made 12 = .ok (.if_icmp .lt 14, 3) := by decide +kernel
theorem dX7_made_15 : decode cX7_made 15 = .ok (.new 311, 3) := by decide +kernel
theorem dX7_made_18 : decode cX7_made 18 = .ok (.dup, 1) := by decide +kernel
theorem dX7_made_19 : decode cX7_made 19 = .ok (.ldc_w 313, 3) := by decide +kernel
theorem dX7_made_22 : decode cX7_made 22 = .ok (.invokespecial 315, 3) := by decide +kernel
theorem dX7_made_25 : decode cX7_made 25 = .ok (.athrow, 1) := by decide +kernel
theorem dX7_made_26 : decode cX7_made 26 = .ok (.bipush 10, 2) := by decide +kernel
theorem dX7_made_28 : decode cX7_made 28 = .ok (.aload_n 0, 1) := by decide +kernel
theorem dX7_made_29 : decode cX7_made 29 = .ok (.getfield 26, 3) := by decide +kernel
theorem dX7_made_32 : decode cX7_made 32 = .ok (.iload_n 1, 1) := by decide +kernel
theorem dX7_made_33 : decode cX7_made 33 = .ok (.invokevirtual 318, 3) := by decide +kernel
theorem dX7_made_36 : decode cX7_made 36 = .ok (.imul, 1) := by decide +kernel
theorem dX7_made_37 : decode cX7_made 37 = .ok (.aload_n 0, 1) := by decide +kernel
theorem dX7_made_38 : decode cX7_made 38 = .ok (.getfield 26, 3) := by decide +kernel
theorem dX7_made_41 : decode cX7_made 41 = .ok (.iload_n 1, 1) := by decide +kernel
theorem dX7_made_42 : decode cX7_made 42 = .ok (.invokevirtual 321, 3) := by decide +kernel
theorem dX7_made_45 : decode cX7_made 45 = .ok (.iadd, 1) := by decide +kernel
theorem dX7_made_46 : decode cX7_made 46 = .ok (.ireturn, 1) := by decide +kernel
theorem dX7_count_0 : decode cX7_count 0 = .ok (.iload_n 1, 1) := by decide +kernel
theorem dX7_count_1 : decode cX7_count 1 = .ok (.tableswitch 107 0 6 #[43, 51, 59, 67, 75, 91, 99], 43) := by decide +kernel
theorem dX7_count_44 : decode cX7_count 44 = .ok (.aload_n 0, 1) := by decide +kernel
theorem dX7_count_45 : decode cX7_count 45 = .ok (.getfield 26, 3) := by decide +kernel
theorem dX7_count_48 : decode cX7_count 48 = .ok (.getfield 104, 3) := by decide +kernel
theorem dX7_count_51 : decode cX7_count 51 = .ok (.ireturn, 1) := by decide +kernel
theorem dX7_count_52 : decode cX7_count 52 = .ok (.aload_n 0, 1) := by decide +kernel
theorem dX7_count_53 : decode cX7_count 53 = .ok (.getfield 26, 3) := by decide +kernel
theorem dX7_count_56 : decode cX7_count 56 = .ok (.getfield 152, 3) := by decide +kernel
theorem dX7_count_59 : decode cX7_count 59 = .ok (.ireturn, 1) := by decide +kernel
theorem dX7_count_60 : decode cX7_count 60 = .ok (.aload_n 0, 1) := by decide +kernel
theorem dX7_count_61 : decode cX7_count 61 = .ok (.getfield 26, 3) := by decide +kernel
theorem dX7_count_64 : decode cX7_count 64 = .ok (.getfield 162, 3) := by decide +kernel
theorem dX7_count_67 : decode cX7_count 67 = .ok (.ireturn, 1) := by decide +kernel
theorem dX7_count_68 : decode cX7_count 68 = .ok (.aload_n 0, 1) := by decide +kernel
theorem dX7_count_69 : decode cX7_count 69 = .ok (.getfield 26, 3) := by decide +kernel
theorem dX7_count_72 : decode cX7_count 72 = .ok (.getfield 165, 3) := by decide +kernel
theorem dX7_count_75 : decode cX7_count 75 = .ok (.ireturn, 1) := by decide +kernel
theorem dX7_count_76 : decode cX7_count 76 = .ok (.aload_n 0, 1) := by decide +kernel
theorem dX7_count_77 : decode cX7_count 77 = .ok (.getfield 26, 3) := by decide +kernel
theorem dX7_count_80 : decode cX7_count 80 = .ok (.invokevirtual 168, 3) := by decide +kernel
theorem dX7_count_83 : decode cX7_count 83 = .ok (.ifCond .eq 7, 3) := by decide +kernel
theorem dX7_count_86 : decode cX7_count 86 = .ok (.iconst 1, 1) := by decide +kernel
theorem dX7_count_87 : decode cX7_count 87 = .ok (.goto 4, 3) := by decide +kernel
theorem dX7_count_90 : decode cX7_count 90 = .ok (.iconst 0, 1) := by decide +kernel
theorem dX7_count_91 : decode cX7_count 91 = .ok (.ireturn, 1) := by decide +kernel
theorem dX7_count_92 : decode cX7_count 92 = .ok (.aload_n 0, 1) := by decide +kernel
theorem dX7_count_93 : decode cX7_count 93 = .ok (.getfield 22, 3) := by decide +kernel
theorem dX7_count_96 : decode cX7_count 96 = .ok (.getfield 82, 3) := by decide +kernel
theorem dX7_count_99 : decode cX7_count 99 = .ok (.ireturn, 1) := by decide +kernel
theorem dX7_count_100 : decode cX7_count 100 = .ok (.aload_n 0, 1) := by decide +kernel
theorem dX7_count_101 : decode cX7_count 101 = .ok (.getfield 36, 3) := by decide +kernel
theorem dX7_count_104 : decode cX7_count 104 = .ok (.getfield 308, 3) := by decide +kernel
theorem dX7_count_107 : decode cX7_count 107 = .ok (.ireturn, 1) := by decide +kernel
theorem dX7_count_108 : decode cX7_count 108 = .ok (.iconst (-1), 1) := by decide +kernel
theorem dX7_count_109 : decode cX7_count 109 = .ok (.ireturn, 1) := by decide +kernel
theorem dX7_isSide_0 : decode cX7_isSide 0 = .ok (.iload_n 0, 1) := by decide +kernel
theorem dX7_isSide_1 : decode cX7_isSide 1 = .ok (.ifCond .eq 8, 3) := by decide +kernel
theorem dX7_isSide_4 : decode cX7_isSide 4 = .ok (.iload_n 0, 1) := by decide +kernel
theorem dX7_isSide_5 : decode cX7_isSide 5 = .ok (.iconst 1, 1) := by decide +kernel
theorem dX7_isSide_6 : decode cX7_isSide 6 = .ok (.if_icmp .ne 7, 3) := by decide +kernel
theorem dX7_isSide_9 : decode cX7_isSide 9 = .ok (.iconst 1, 1) := by decide +kernel
theorem dX7_isSide_10 : decode cX7_isSide 10 = .ok (.goto 4, 3) := by decide +kernel
theorem dX7_isSide_13 : decode cX7_isSide 13 = .ok (.iconst 0, 1) := by decide +kernel
theorem dX7_isSide_14 : decode cX7_isSide 14 = .ok (.ireturn, 1) := by decide +kernel
theorem dX7_isPart_0 : decode cX7_isPart 0 = .ok (.iload_n 0, 1) := by decide +kernel
theorem dX7_isPart_1 : decode cX7_isPart 1 = .ok (.ifCond .eq 8, 3) := by decide +kernel
theorem dX7_isPart_4 : decode cX7_isPart 4 = .ok (.iload_n 0, 1) := by decide +kernel
theorem dX7_isPart_5 : decode cX7_isPart 5 = .ok (.iconst 1, 1) := by decide +kernel
theorem dX7_isPart_6 : decode cX7_isPart 6 = .ok (.if_icmp .ne 7, 3) := by decide +kernel
theorem dX7_isPart_9 : decode cX7_isPart 9 = .ok (.iconst 1, 1) := by decide +kernel
theorem dX7_isPart_10 : decode cX7_isPart 10 = .ok (.goto 4, 3) := by decide +kernel
theorem dX7_isPart_13 : decode cX7_isPart 13 = .ok (.iconst 0, 1) := by decide +kernel
theorem dX7_isPart_14 : decode cX7_isPart 14 = .ok (.ireturn, 1) := by decide +kernel
theorem dX7_isOrder_0 : decode cX7_isOrder 0 = .ok (.iload_n 0, 1) := by decide +kernel
theorem dX7_isOrder_1 : decode cX7_isOrder 1 = .ok (.ifCond .lt 12, 3) := by decide +kernel
theorem dX7_isOrder_4 : decode cX7_isOrder 4 = .ok (.iload_n 0, 1) := by decide +kernel
theorem dX7_isOrder_5 : decode cX7_isOrder 5 = .ok (.iconst 3, 1) := by decide +kernel
theorem dX7_isOrder_6 : decode cX7_isOrder 6 = .ok (.if_icmp .gt 7, 3) := by decide +kernel
theorem dX7_isOrder_9 : decode cX7_isOrder 9 = .ok (.iconst 1, 1) := by decide +kernel
theorem dX7_isOrder_10 : decode cX7_isOrder 10 = .ok (.goto 4, 3) := by decide +kernel
theorem dX7_isOrder_13 : decode cX7_isOrder 13 = .ok (.iconst 0, 1) := by decide +kernel
theorem dX7_isOrder_14 : decode cX7_isOrder 14 = .ok (.ireturn, 1) := by decide +kernel
theorem dX7_isSkill_0 : decode cX7_isSkill 0 = .ok (.iload_n 0, 1) := by decide +kernel
theorem dX7_isSkill_1 : decode cX7_isSkill 1 = .ok (.ifCond .lt 13, 3) := by decide +kernel
theorem dX7_isSkill_4 : decode cX7_isSkill 4 = .ok (.iload_n 0, 1) := by decide +kernel
theorem dX7_isSkill_5 : decode cX7_isSkill 5 = .ok (.bipush 6, 2) := by decide +kernel
theorem dX7_isSkill_7 : decode cX7_isSkill 7 = .ok (.if_icmp .gt 7, 3) := by decide +kernel
theorem dX7_isSkill_10 : decode cX7_isSkill 10 = .ok (.iconst 1, 1) := by decide +kernel
theorem dX7_isSkill_11 : decode cX7_isSkill 11 = .ok (.goto 4, 3) := by decide +kernel
theorem dX7_isSkill_14 : decode cX7_isSkill 14 = .ok (.iconst 0, 1) := by decide +kernel
theorem dX7_isSkill_15 : decode cX7_isSkill 15 = .ok (.ireturn, 1) := by decide +kernel
theorem dX7_isSideTold_0 : decode cX7_isSideTold 0 = .ok (.aload_n 0, 1) := by decide +kernel
theorem dX7_isSideTold_1 : decode cX7_isSideTold 1 = .ok (.getfield 26, 3) := by decide +kernel
theorem dX7_isSideTold_4 : decode cX7_isSideTold 4 = .ok (.getfield 104, 3) := by decide +kernel
theorem dX7_isSideTold_7 : decode cX7_isSideTold 7 = .ok (.ifCond .le 14, 3) := by decide +kernel
theorem dX7_isSideTold_10 : decode cX7_isSideTold 10 = .ok (.iload_n 1, 1) := by decide +kernel
theorem dX7_isSideTold_11 : decode cX7_isSideTold 11 = .ok (.invokestatic 214, 3) := by decide +kernel
theorem dX7_isSideTold_14 : decode cX7_isSideTold 14 = .ok (.ifCond .eq 7, 3) := by decide +kernel
theorem dX7_isSideTold_17 : decode cX7_isSideTold 17 = .ok (.iconst 1, 1) := by decide +kernel
theorem dX7_isSideTold_18 : decode cX7_isSideTold 18 = .ok (.goto 4, 3) := by decide +kernel
theorem dX7_isSideTold_21 : decode cX7_isSideTold 21 = .ok (.iconst 0, 1) := by decide +kernel
theorem dX7_isSideTold_22 : decode cX7_isSideTold 22 = .ok (.ireturn, 1) := by decide +kernel
theorem dX7_isShooter_0 : decode cX7_isShooter 0 = .ok (.iload_n 1, 1) := by decide +kernel
theorem dX7_isShooter_1 : decode cX7_isShooter 1 = .ok (.ifCond .lt 18, 3) := by decide +kernel
theorem dX7_isShooter_4 : decode cX7_isShooter 4 = .ok (.iload_n 1, 1) := by decide +kernel
theorem dX7_isShooter_5 : decode cX7_isShooter 5 = .ok (.aload_n 0, 1) := by decide +kernel
theorem dX7_isShooter_6 : decode cX7_isShooter 6 = .ok (.getfield 26, 3) := by decide +kernel
theorem dX7_isShooter_9 : decode cX7_isShooter 9 = .ok (.getfield 104, 3) := by decide +kernel
theorem dX7_isShooter_12 : decode cX7_isShooter 12 = .ok (.if_icmp .ge 7, 3) := by decide +kernel
theorem dX7_isShooter_15 : decode cX7_isShooter 15 = .ok (.iconst 1, 1) := by decide +kernel
theorem dX7_isShooter_16 : decode cX7_isShooter 16 = .ok (.goto 4, 3) := by decide +kernel
theorem dX7_isShooter_19 : decode cX7_isShooter 19 = .ok (.iconst 0, 1) := by decide +kernel
theorem dX7_isShooter_20 : decode cX7_isShooter 20 = .ok (.ireturn, 1) := by decide +kernel
theorem dX7_remember_0 : decode cX7_remember 0 = .ok (.aload_n 0, 1) := by decide +kernel
theorem dX7_remember_1 : decode cX7_remember 1 = .ok (.getfield 36, 3) := by decide +kernel
theorem dX7_remember_4 : decode cX7_remember 4 = .ok (.aload_n 0, 1) := by decide +kernel
theorem dX7_remember_5 : decode cX7_remember 5 = .ok (.getfield 26, 3) := by decide +kernel
theorem dX7_remember_8 : decode cX7_remember 8 = .ok (.invokevirtual 324, 3) := by decide +kernel
theorem dX7_remember_11 : decode cX7_remember 11 = .ok (.aload_n 0, 1) := by decide +kernel
theorem dX7_remember_12 : decode cX7_remember 12 = .ok (.getfield 68, 3) := by decide +kernel
theorem dX7_remember_15 : decode cX7_remember 15 = .ok (.iconst 0, 1) := by decide +kernel
theorem dX7_remember_16 : decode cX7_remember 16 = .ok (.putfield 100, 3) := by decide +kernel
theorem dX7_remember_19 : decode cX7_remember 19 = .ok (.return_, 1) := by decide +kernel
theorem dX7_playFromNow_0 : decode cX7_playFromNow 0 = .ok (.aload_n 0, 1) := by decide +kernel
theorem dX7_playFromNow_1 : decode cX7_playFromNow 1 = .ok (.getfield 22, 3) := by decide +kernel
theorem dX7_playFromNow_4 : decode cX7_playFromNow 4 = .ok (.ldc_w 327, 3) := by decide +kernel
theorem dX7_playFromNow_7 : decode cX7_playFromNow 7 = .ok (.invokevirtual 329, 3) := by decide +kernel
theorem dX7_playFromNow_10 : decode cX7_playFromNow 10 = .ok (.istore_n 1, 1) := by decide +kernel
theorem dX7_playFromNow_11 : decode cX7_playFromNow 11 = .ok (.iload_n 1, 1) := by decide +kernel
theorem dX7_playFromNow_12 : decode cX7_playFromNow 12 = .ok (.ifCond .lt 9, 3) := by decide +kernel
theorem dX7_playFromNow_15 : decode cX7_playFromNow 15 = .ok (.sipush (-1000), 3) := by decide +kernel
theorem dX7_playFromNow_18 : decode cX7_playFromNow 18 = .ok (.iload_n 1, 1) := by decide +kernel
theorem dX7_playFromNow_19 : decode cX7_playFromNow 19 = .ok (.isub, 1) := by decide +kernel
theorem dX7_playFromNow_20 : decode cX7_playFromNow 20 = .ok (.ireturn, 1) := by decide +kernel
theorem dX7_playFromNow_21 : decode cX7_playFromNow 21 = .ok (.aload_n 0, 1) := by decide +kernel
theorem dX7_playFromNow_22 : decode cX7_playFromNow 22 = .ok (.getfield 30, 3) := by decide +kernel
theorem dX7_playFromNow_25 : decode cX7_playFromNow 25 = .ok (.aload_n 0, 1) := by decide +kernel
theorem dX7_playFromNow_26 : decode cX7_playFromNow 26 = .ok (.getfield 26, 3) := by decide +kernel
theorem dX7_playFromNow_29 : decode cX7_playFromNow 29 = .ok (.invokevirtual 93, 3) := by decide +kernel
theorem dX7_playFromNow_32 : decode cX7_playFromNow 32 = .ok (.aload_n 0, 1) := by decide +kernel
theorem dX7_playFromNow_33 : decode cX7_playFromNow 33 = .ok (.invokevirtual 333, 3) := by decide +kernel
theorem dX7_playFromNow_36 : decode cX7_playFromNow 36 = .ok (.istore_n 2, 1) := by decide +kernel
theorem dX7_playFromNow_37 : decode cX7_playFromNow 37 = .ok (.aload_n 0, 1) := by decide +kernel
theorem dX7_playFromNow_38 : decode cX7_playFromNow 38 = .ok (.getfield 30, 3) := by decide +kernel
theorem dX7_playFromNow_41 : decode cX7_playFromNow 41 = .ok (.getfield 152, 3) := by decide +kernel
theorem dX7_playFromNow_44 : decode cX7_playFromNow 44 = .ok (.aload_n 0, 1) := by decide +kernel
theorem dX7_playFromNow_45 : decode cX7_playFromNow 45 = .ok (.getfield 26, 3) := by decide +kernel
theorem dX7_playFromNow_48 : decode cX7_playFromNow 48 = .ok (.getfield 152, 3) := by decide +kernel
theorem dX7_playFromNow_51 : decode cX7_playFromNow 51 = .ok (.isub, 1) := by decide +kernel
theorem dX7_playFromNow_52 : decode cX7_playFromNow 52 = .ok (.istore_n 3, 1) := by decide +kernel
theorem dX7_playFromNow_53 : decode cX7_playFromNow 53 = .ok (.iload_n 3, 1) := by decide +kernel
theorem dX7_playFromNow_54 : decode cX7_playFromNow 54 = .ok (.ifCond .le 18, 3) := by decide +kernel
theorem dX7_playFromNow_57 : decode cX7_playFromNow 57 = .ok (.aload_n 0, 1) := by decide +kernel
theorem dX7_playFromNow_58 : decode cX7_playFromNow 58 = .ok (.invokevirtual 130, 3) := by decide +kernel
theorem dX7_playFromNow_61 : decode cX7_playFromNow 61 = .ok (.aload_n 0, 1) := by decide +kernel
theorem dX7_playFromNow_62 : decode cX7_playFromNow 62 = .ok (.getfield 26, 3) := by decide +kernel
theorem dX7_playFromNow_65 : decode cX7_playFromNow 65 = .ok (.aload_n 0, 1) := by decide +kernel
theorem dX7_playFromNow_66 : decode cX7_playFromNow 66 = .ok (.getfield 30, 3) := by decide +kernel
theorem dX7_playFromNow_69 : decode cX7_playFromNow 69 = .ok (.invokevirtual 93, 3) := by decide +kernel
theorem dX7_playFromNow_72 : decode cX7_playFromNow 72 = .ok (.iload_n 2, 1) := by decide +kernel
theorem dX7_playFromNow_73 : decode cX7_playFromNow 73 = .ok (.ifCond .lt 11, 3) := by decide +kernel
theorem dX7_playFromNow_76 : decode cX7_playFromNow 76 = .ok (.sipush (-1000), 3) := by decide +kernel
theorem dX7_playFromNow_79 : decode cX7_playFromNow 79 = .ok (.iload_n 2, 1) := by decide +kernel
theorem dX7_playFromNow_80 : decode cX7_playFromNow 80 = .ok (.isub, 1) := by decide +kernel
theorem dX7_playFromNow_81 : decode cX7_playFromNow 81 = .ok (.goto 4, 3) := by decide +kernel
theorem dX7_playFromNow_84 : decode cX7_playFromNow 84 = .ok (.iload_n 3, 1) := by decide +kernel
theorem dX7_playFromNow_85 : decode cX7_playFromNow 85 = .ok (.ireturn, 1) := by decide +kernel
theorem dX7_judgeFromStart_0 : decode cX7_judgeFromStart 0 = .ok (.aload_n 0, 1) := by decide +kernel
theorem dX7_judgeFromStart_1 : decode cX7_judgeFromStart 1 = .ok (.getfield 22, 3) := by decide +kernel
theorem dX7_judgeFromStart_4 : decode cX7_judgeFromStart 4 = .ok (.ldc_w 327, 3) := by decide +kernel
theorem dX7_judgeFromStart_7 : decode cX7_judgeFromStart 7 = .ok (.invokevirtual 329, 3) := by decide +kernel
theorem dX7_judgeFromStart_10 : decode cX7_judgeFromStart 10 = .ok (.istore_n 1, 1) := by decide +kernel
theorem dX7_judgeFromStart_11 : decode cX7_judgeFromStart 11 = .ok (.iload_n 1, 1) := by decide +kernel
theorem dX7_judgeFromStart_12 : decode cX7_judgeFromStart 12 = .ok (.ifCond .lt 9, 3) := by decide +kernel
theorem dX7_judgeFromStart_15 : decode cX7_judgeFromStart 15 = .ok (.sipush (-1000), 3) := by decide +kernel
theorem dX7_judgeFromStart_18 : decode cX7_judgeFromStart 18 = .ok (.iload_n 1, 1) := by decide +kernel
theorem dX7_judgeFromStart_19 : decode cX7_judgeFromStart 19 = .ok (.isub, 1) := by decide +kernel
theorem dX7_judgeFromStart_20 : decode cX7_judgeFromStart 20 = .ok (.ireturn, 1) := by decide +kernel
theorem dX7_judgeFromStart_21 : decode cX7_judgeFromStart 21 = .ok (.aload_n 0, 1) := by decide +kernel
theorem dX7_judgeFromStart_22 : decode cX7_judgeFromStart 22 = .ok (.invokevirtual 255, 3) := by decide +kernel
theorem dX7_judgeFromStart_25 : decode cX7_judgeFromStart 25 = .ok (.aload_n 0, 1) := by decide +kernel
theorem dX7_judgeFromStart_26 : decode cX7_judgeFromStart 26 = .ok (.invokevirtual 333, 3) := by decide +kernel
theorem dX7_judgeFromStart_29 : decode cX7_judgeFromStart 29 = .ok (.istore_n 2, 1) := by decide +kernel
theorem dX7_judgeFromStart_30 : decode cX7_judgeFromStart 30 = .ok (.iload_n 2, 1) := by decide +kernel
theorem dX7_judgeFromStart_31 : decode cX7_judgeFromStart 31 = .ok (.ifCond .lt 9, 3) := by decide +kernel
theorem dX7_judgeFromStart_34 : decode cX7_judgeFromStart 34 = .ok (.sipush (-1000), 3) := by decide +kernel
theorem dX7_judgeFromStart_37 : decode cX7_judgeFromStart 37 = .ok (.iload_n 2, 1) := by decide +kernel
theorem dX7_judgeFromStart_38 : decode cX7_judgeFromStart 38 = .ok (.isub, 1) := by decide +kernel
theorem dX7_judgeFromStart_39 : decode cX7_judgeFromStart 39 = .ok (.ireturn, 1) := by decide +kernel
theorem dX7_judgeFromStart_40 : decode cX7_judgeFromStart 40 = .ok (.aload_n 0, 1) := by decide +kernel
theorem dX7_judgeFromStart_41 : decode cX7_judgeFromStart 41 = .ok (.iconst 1, 1) := by decide +kernel
theorem dX7_judgeFromStart_42 : decode cX7_judgeFromStart 42 = .ok (.putfield 146, 3) := by decide +kernel
theorem dX7_judgeFromStart_45 : decode cX7_judgeFromStart 45 = .ok (.aload_n 0, 1) := by decide +kernel
theorem dX7_judgeFromStart_46 : decode cX7_judgeFromStart 46 = .ok (.getfield 72, 3) := by decide +kernel
theorem dX7_judgeFromStart_49 : decode cX7_judgeFromStart 49 = .ok (.iconst 0, 1) := by decide +kernel
theorem dX7_judgeFromStart_50 : decode cX7_judgeFromStart 50 = .ok (.aload_n 0, 1) := by decide +kernel
theorem dX7_judgeFromStart_51 : decode cX7_judgeFromStart 51 = .ok (.getfield 30, 3) := by decide +kernel
theorem dX7_judgeFromStart_54 : decode cX7_judgeFromStart 54 = .ok (.iconst 0, 1) := by decide +kernel
theorem dX7_judgeFromStart_55 : decode cX7_judgeFromStart 55 = .ok (.invokevirtual 115, 3) := by decide +kernel
theorem dX7_judgeFromStart_58 : decode cX7_judgeFromStart 58 = .ok (.iastore, 1) := by decide +kernel
theorem dX7_judgeFromStart_59 : decode cX7_judgeFromStart 59 = .ok (.aload_n 0, 1) := by decide +kernel
theorem dX7_judgeFromStart_60 : decode cX7_judgeFromStart 60 = .ok (.getfield 72, 3) := by decide +kernel
theorem dX7_judgeFromStart_63 : decode cX7_judgeFromStart 63 = .ok (.iconst 1, 1) := by decide +kernel
theorem dX7_judgeFromStart_64 : decode cX7_judgeFromStart 64 = .ok (.aload_n 0, 1) := by decide +kernel
theorem dX7_judgeFromStart_65 : decode cX7_judgeFromStart 65 = .ok (.getfield 30, 3) := by decide +kernel
theorem dX7_judgeFromStart_68 : decode cX7_judgeFromStart 68 = .ok (.iconst 1, 1) := by decide +kernel
theorem dX7_judgeFromStart_69 : decode cX7_judgeFromStart 69 = .ok (.invokevirtual 115, 3) := by decide +kernel
theorem dX7_judgeFromStart_72 : decode cX7_judgeFromStart 72 = .ok (.iastore, 1) := by decide +kernel
theorem dX7_judgeFromStart_73 : decode cX7_judgeFromStart 73 = .ok (.aload_n 0, 1) := by decide +kernel
theorem dX7_judgeFromStart_74 : decode cX7_judgeFromStart 74 = .ok (.getfield 72, 3) := by decide +kernel
theorem dX7_judgeFromStart_77 : decode cX7_judgeFromStart 77 = .ok (.iconst 2, 1) := by decide +kernel
theorem dX7_judgeFromStart_78 : decode cX7_judgeFromStart 78 = .ok (.aload_n 0, 1) := by decide +kernel
theorem dX7_judgeFromStart_79 : decode cX7_judgeFromStart 79 = .ok (.getfield 30, 3) := by decide +kernel
theorem dX7_judgeFromStart_82 : decode cX7_judgeFromStart 82 = .ok (.invokevirtual 168, 3) := by decide +kernel
theorem dX7_judgeFromStart_85 : decode cX7_judgeFromStart 85 = .ok (.ifCond .eq 7, 3) := by decide +kernel
theorem dX7_judgeFromStart_88 : decode cX7_judgeFromStart 88 = .ok (.iconst 1, 1) := by decide +kernel
theorem dX7_judgeFromStart_89 : decode cX7_judgeFromStart 89 = .ok (.goto 4, 3) := by decide +kernel
theorem dX7_judgeFromStart_92 : decode cX7_judgeFromStart 92 = .ok (.iconst 0, 1) := by decide +kernel
theorem dX7_judgeFromStart_93 : decode cX7_judgeFromStart 93 = .ok (.iastore, 1) := by decide +kernel
theorem dX7_judgeFromStart_94 : decode cX7_judgeFromStart 94 = .ok (.aload_n 0, 1) := by decide +kernel
theorem dX7_judgeFromStart_95 : decode cX7_judgeFromStart 95 = .ok (.getfield 72, 3) := by decide +kernel
theorem dX7_judgeFromStart_98 : decode cX7_judgeFromStart 98 = .ok (.iconst 3, 1) := by decide +kernel
theorem dX7_judgeFromStart_99 : decode cX7_judgeFromStart 99 = .ok (.aload_n 0, 1) := by decide +kernel
theorem dX7_judgeFromStart_100 : decode cX7_judgeFromStart 100 = .ok (.getfield 30, 3) := by decide +kernel
theorem dX7_judgeFromStart_103 : decode cX7_judgeFromStart 103 = .ok (.getfield 152, 3) := by decide +kernel
theorem dX7_judgeFromStart_106 : decode cX7_judgeFromStart 106 = .ok (.ifCond .ne 7, 3) := by decide +kernel
theorem dX7_judgeFromStart_109 : decode cX7_judgeFromStart 109 = .ok (.iconst (-1), 1) := by decide +kernel
theorem dX7_judgeFromStart_110 : decode cX7_judgeFromStart 110 = .ok (.goto 14, 3) := by decide +kernel
theorem dX7_judgeFromStart_113 : decode cX7_judgeFromStart 113 = .ok (.aload_n 0, 1) := by decide +kernel
theorem dX7_judgeFromStart_114 : decode cX7_judgeFromStart 114 = .ok (.getfield 30, 3) := by decide +kernel
theorem dX7_judgeFromStart_117 : decode cX7_judgeFromStart 117 = .ok (.getfield 152, 3) := by decide +kernel
theorem dX7_judgeFromStart_120 : decode cX7_judgeFromStart 120 = .ok (.iconst 1, 1) := by decide +kernel
theorem dX7_judgeFromStart_121 : decode cX7_judgeFromStart 121 = .ok (.isub, 1) := by decide +kernel
theorem dX7_judgeFromStart_122 : decode cX7_judgeFromStart 122 = .ok (.iconst 2, 1) := by decide +kernel
theorem dX7_judgeFromStart_123 : decode cX7_judgeFromStart 123 = .ok (.idiv, 1) := by decide +kernel
theorem dX7_judgeFromStart_124 : decode cX7_judgeFromStart 124 = .ok (.iastore, 1) := by decide +kernel
theorem dX7_judgeFromStart_125 : decode cX7_judgeFromStart 125 = .ok (.aload_n 0, 1) := by decide +kernel
theorem dX7_judgeFromStart_126 : decode cX7_judgeFromStart 126 = .ok (.getfield 30, 3) := by decide +kernel
theorem dX7_judgeFromStart_129 : decode cX7_judgeFromStart 129 = .ok (.getfield 152, 3) := by decide +kernel
theorem dX7_judgeFromStart_132 : decode cX7_judgeFromStart 132 = .ok (.ireturn, 1) := by decide +kernel
theorem dX7_playTextOnTrial_0 : decode cX7_playTextOnTrial 0 = .ok (.iconst 0, 1) := by decide +kernel
theorem dX7_playTextOnTrial_1 : decode cX7_playTextOnTrial 1 = .ok (.istore_n 1, 1) := by decide +kernel
theorem dX7_playTextOnTrial_2 : decode cX7_playTextOnTrial 2 = .ok (.iload_n 1, 1) := by decide +kernel
theorem dX7_playTextOnTrial_3 : decode cX7_playTextOnTrial 3 = .ok (.aload_n 0, 1) := by decide +kernel
theorem dX7_playTextOnTrial_4 : decode cX7_playTextOnTrial 4 = .ok (.getfield 22, 3) := by decide +kernel
theorem dX7_playTextOnTrial_7 : decode cX7_playTextOnTrial 7 = .ok (.getfield 82, 3) := by decide +kernel
theorem dX7_playTextOnTrial_10 : decode cX7_playTextOnTrial 10 = .ok (.if_icmp .ge 57, 3) := by decide +kernel
theorem dX7_playTextOnTrial_13 : decode cX7_playTextOnTrial 13 = .ok (.aload_n 0, 1) := by decide +kernel
theorem dX7_playTextOnTrial_14 : decode cX7_playTextOnTrial 14 = .ok (.getfield 22, 3) := by decide +kernel
theorem dX7_playTextOnTrial_17 : decode cX7_playTextOnTrial 17 = .ok (.iload_n 1, 1) := by decide +kernel
theorem dX7_playTextOnTrial_18 : decode cX7_playTextOnTrial 18 = .ok (.invokevirtual 336, 3) := by decide +kernel
theorem dX7_playTextOnTrial_21 : decode cX7_playTextOnTrial 21 = .ok (.istore_n 2, 1) := by decide +kernel
theorem dX7_playTextOnTrial_22 : decode cX7_playTextOnTrial 22 = .ok (.iload_n 2, 1) := by decide +kernel
theorem dX7_playTextOnTrial_23 : decode cX7_playTextOnTrial 23 = .ok (.bipush 32, 2) := by decide +kernel
theorem dX7_playTextOnTrial_25 : decode cX7_playTextOnTrial 25 = .ok (.if_icmp .ne 6, 3) := by decide +kernel
theorem dX7_playTextOnTrial_28 : decode cX7_playTextOnTrial 28 = .ok (.goto 33, 3) := by decide +kernel
theorem dX7_playTextOnTrial_31 : decode cX7_playTextOnTrial 31 = .ok (.aload_n 0, 1) := by decide +kernel
theorem dX7_playTextOnTrial_32 : decode cX7_playTextOnTrial 32 = .ok (.getfield 30, 3) := by decide +kernel
theorem dX7_playTextOnTrial_35 : decode cX7_playTextOnTrial 35 = .ok (.invokevirtual 126, 3) := by decide +kernel
theorem dX7_playTextOnTrial_38 : decode cX7_playTextOnTrial 38 = .ok (.ifCond .ne 5, 3) := by decide +kernel
theorem dX7_playTextOnTrial_41 : decode cX7_playTextOnTrial 41 = .ok (.iload_n 1, 1) := by decide +kernel
theorem dX7_playTextOnTrial_42 : decode cX7_playTextOnTrial 42 = .ok (.ireturn, 1) := by decide +kernel
theorem dX7_playTextOnTrial_43 : decode cX7_playTextOnTrial 43 = .ok (.aload_n 0, 1) := by decide +kernel
theorem dX7_playTextOnTrial_44 : decode cX7_playTextOnTrial 44 = .ok (.getfield 30, 3) := by decide +kernel
theorem dX7_playTextOnTrial_47 : decode cX7_playTextOnTrial 47 = .ok (.iload_n 2, 1) := by decide +kernel
theorem dX7_playTextOnTrial_48 : decode cX7_playTextOnTrial 48 = .ok (.bipush 120, 2) := by decide +kernel
theorem dX7_playTextOnTrial_50 : decode cX7_playTextOnTrial 50 = .ok (.if_icmp .ne 7, 3) := by decide +kernel
theorem dX7_playTextOnTrial_53 : decode cX7_playTextOnTrial 53 = .ok (.iconst 1, 1) := by decide +kernel
theorem dX7_playTextOnTrial_54 : decode cX7_playTextOnTrial 54 = .ok (.goto 4, 3) := by decide +kernel
theorem dX7_playTextOnTrial_57 : decode cX7_playTextOnTrial 57 = .ok (.iconst 0, 1) := by decide +kernel
theorem dX7_playTextOnTrial_58 : decode cX7_playTextOnTrial 58 = .ok (.invokevirtual 136, 3) := by decide +kernel
theorem dX7_playTextOnTrial_61 : decode cX7_playTextOnTrial 61 = .ok (.iinc 1 1, 3) := by decide +kernel
theorem dX7_playTextOnTrial_64 : decode cX7_playTextOnTrial 64 = .ok (.goto (-62), 3) := by decide +kernel
theorem dX7_playTextOnTrial_67 : decode cX7_playTextOnTrial 67 = .ok (.iconst (-1), 1) := by decide +kernel
theorem dX7_playTextOnTrial_68 : decode cX7_playTextOnTrial 68 = .ok (.ireturn, 1) := by decide +kernel
theorem dX7_drawTrial_0 : decode cX7_drawTrial 0 = .ok (.iload_n 1, 1) := by decide +kernel
theorem dX7_drawTrial_1 : decode cX7_drawTrial 1 = .ok (.istore_n 2, 1) := by decide +kernel
theorem dX7_drawTrial_2 : decode cX7_drawTrial 2 = .ok (.iconst 0, 1) := by decide +kernel
theorem dX7_drawTrial_3 : decode cX7_drawTrial 3 = .ok (.istore_n 3, 1) := by decide +kernel
theorem dX7_drawTrial_4 : decode cX7_drawTrial 4 = .ok (.iload_n 3, 1) := by decide +kernel
theorem dX7_drawTrial_5 : decode cX7_drawTrial 5 = .ok (.bipush 60, 2) := by decide +kernel
theorem dX7_drawTrial_7 : decode cX7_drawTrial 7 = .ok (.if_icmp .ge 59, 3) := by decide +kernel
theorem dX7_drawTrial_10 : decode cX7_drawTrial 10 = .ok (.aload_n 0, 1) := by decide +kernel
theorem dX7_drawTrial_11 : decode cX7_drawTrial 11 = .ok (.getfield 30, 3) := by decide +kernel
theorem dX7_drawTrial_14 : decode cX7_drawTrial 14 = .ok (.invokevirtual 126, 3) := by decide +kernel
theorem dX7_drawTrial_17 : decode cX7_drawTrial 17 = .ok (.ifCond .eq 49, 3) := by decide +kernel
theorem dX7_drawTrial_20 : decode cX7_drawTrial 20 = .ok (.sipush 1103, 3) := by decide +kernel
theorem dX7_drawTrial_23 : decode cX7_drawTrial 23 = .ok (.iload_n 2, 1) := by decide +kernel
theorem dX7_drawTrial_24 : decode cX7_drawTrial 24 = .ok (.imul, 1) := by decide +kernel
theorem dX7_drawTrial_25 : decode cX7_drawTrial 25 = .ok (.sipush 12345, 3) := by decide +kernel
theorem dX7_drawTrial_28 : decode cX7_drawTrial 28 = .ok (.iadd, 1) := by decide +kernel
theorem dX7_drawTrial_29 : decode cX7_drawTrial 29 = .ok (.ldc_w 340, 3) := by decide +kernel
theorem dX7_drawTrial_32 : decode cX7_drawTrial 32 = .ok (.irem, 1) := by decide +kernel
theorem dX7_drawTrial_33 : decode cX7_drawTrial 33 = .ok (.istore_n 2, 1) := by decide +kernel
theorem dX7_drawTrial_34 : decode cX7_drawTrial 34 = .ok (.aload_n 0, 1) := by decide +kernel
theorem dX7_drawTrial_35 : decode cX7_drawTrial 35 = .ok (.getfield 30, 3) := by decide +kernel
theorem dX7_drawTrial_38 : decode cX7_drawTrial 38 = .ok (.iload_n 2, 1) := by decide +kernel
theorem dX7_drawTrial_39 : decode cX7_drawTrial 39 = .ok (.bipush 6, 2) := by decide +kernel
theorem dX7_drawTrial_41 : decode cX7_drawTrial 41 = .ok (.irem, 1) := by decide +kernel
theorem dX7_drawTrial_42 : decode cX7_drawTrial 42 = .ok (.aload_n 0, 1) := by decide +kernel
theorem dX7_drawTrial_43 : decode cX7_drawTrial 43 = .ok (.getfield 30, 3) := by decide +kernel
theorem dX7_drawTrial_46 : decode cX7_drawTrial 46 = .ok (.invokevirtual 177, 3) := by decide +kernel
theorem dX7_drawTrial_49 : decode cX7_drawTrial 49 = .ok (.if_icmp .ge 7, 3) := by decide +kernel
theorem dX7_drawTrial_52 : decode cX7_drawTrial 52 = .ok (.iconst 1, 1) := by decide +kernel
theorem dX7_drawTrial_53 : decode cX7_drawTrial 53 = .ok (.goto 4, 3) := by decide +kernel
theorem dX7_drawTrial_56 : decode cX7_drawTrial 56 = .ok (.iconst 0, 1) := by decide +kernel
theorem dX7_drawTrial_57 : decode cX7_drawTrial 57 = .ok (.invokevirtual 136, 3) := by decide +kernel
theorem dX7_drawTrial_60 : decode cX7_drawTrial 60 = .ok (.iinc 3 1, 3) := by decide +kernel
theorem dX7_drawTrial_63 : decode cX7_drawTrial 63 = .ok (.goto (-59), 3) := by decide +kernel
theorem dX7_drawTrial_66 : decode cX7_drawTrial 66 = .ok (.iload_n 2, 1) := by decide +kernel
theorem dX7_drawTrial_67 : decode cX7_drawTrial 67 = .ok (.ireturn, 1) := by decide +kernel
theorem dX7_takeStart_0 : decode cX7_takeStart 0 = .ok (.aload_n 0, 1) := by decide +kernel
theorem dX7_takeStart_1 : decode cX7_takeStart 1 = .ok (.getfield 30, 3) := by decide +kernel
theorem dX7_takeStart_4 : decode cX7_takeStart 4 = .ok (.aload_n 0, 1) := by decide +kernel
theorem dX7_takeStart_5 : decode cX7_takeStart 5 = .ok (.getfield 26, 3) := by decide +kernel
theorem dX7_takeStart_8 : decode cX7_takeStart 8 = .ok (.invokevirtual 93, 3) := by decide +kernel
theorem dX7_takeStart_11 : decode cX7_takeStart 11 = .ok (.aload_n 0, 1) := by decide +kernel
theorem dX7_takeStart_12 : decode cX7_takeStart 12 = .ok (.getfield 30, 3) := by decide +kernel
theorem dX7_takeStart_15 : decode cX7_takeStart 15 = .ok (.invokevirtual 341, 3) := by decide +kernel
theorem dX7_takeStart_18 : decode cX7_takeStart 18 = .ok (.return_, 1) := by decide +kernel
theorem dX7_lookBy_0 : decode cX7_lookBy 0 = .ok (.aload_n 0, 1) := by decide +kernel
theorem dX7_lookBy_1 : decode cX7_lookBy 1 = .ok (.invokevirtual 255, 3) := by decide +kernel
theorem dX7_lookBy_4 : decode cX7_lookBy 4 = .ok (.aload_n 0, 1) := by decide +kernel
theorem dX7_lookBy_5 : decode cX7_lookBy 5 = .ok (.getfield 30, 3) := by decide +kernel
theorem dX7_lookBy_8 : decode cX7_lookBy 8 = .ok (.iload_n 1, 1) := by decide +kernel
theorem dX7_lookBy_9 : decode cX7_lookBy 9 = .ok (.putfield 162, 3) := by decide +kernel
theorem dX7_lookBy_12 : decode cX7_lookBy 12 = .ok (.aload_n 0, 1) := by decide +kernel
theorem dX7_lookBy_13 : decode cX7_lookBy 13 = .ok (.getfield 30, 3) := by decide +kernel
theorem dX7_lookBy_16 : decode cX7_lookBy 16 = .ok (.iload_n 2, 1) := by decide +kernel
theorem dX7_lookBy_17 : decode cX7_lookBy 17 = .ok (.putfield 165, 3) := by decide +kernel
theorem dX7_lookBy_20 : decode cX7_lookBy 20 = .ok (.aload_n 0, 1) := by decide +kernel
theorem dX7_lookBy_21 : decode cX7_lookBy 21 = .ok (.getfield 51, 3) := by decide +kernel
theorem dX7_lookBy_24 : decode cX7_lookBy 24 = .ok (.aload_n 0, 1) := by decide +kernel
theorem dX7_lookBy_25 : decode cX7_lookBy 25 = .ok (.getfield 30, 3) := by decide +kernel
theorem dX7_lookBy_28 : decode cX7_lookBy 28 = .ok (.invokevirtual 185, 3) := by decide +kernel
theorem dX7_lookBy_31 : decode cX7_lookBy 31 = .ok (.return_, 1) := by decide +kernel
theorem dX7_runFromStart_0 : decode cX7_runFromStart 0 = .ok (.aload_n 0, 1) := by decide +kernel
theorem dX7_runFromStart_1 : decode cX7_runFromStart 1 = .ok (.invokevirtual 255, 3) := by decide +kernel
theorem dX7_runFromStart_4 : decode cX7_runFromStart 4 = .ok (.aload_n 0, 1) := by decide +kernel
theorem dX7_runFromStart_5 : decode cX7_runFromStart 5 = .ok (.getfield 51, 3) := by decide +kernel
theorem dX7_runFromStart_8 : decode cX7_runFromStart 8 = .ok (.aload_n 0, 1) := by decide +kernel
theorem dX7_runFromStart_9 : decode cX7_runFromStart 9 = .ok (.getfield 30, 3) := by decide +kernel
theorem dX7_runFromStart_12 : decode cX7_runFromStart 12 = .ok (.iload_n 1, 1) := by decide +kernel
theorem dX7_runFromStart_13 : decode cX7_runFromStart 13 = .ok (.invokevirtual 344, 3) := by decide +kernel
theorem dX7_runFromStart_16 : decode cX7_runFromStart 16 = .ok (.return_, 1) := by decide +kernel
theorem dX7_tellOdds_0 : decode cX7_tellOdds 0 = .ok (.aload_n 0, 1) := by decide +kernel
theorem dX7_tellOdds_1 : decode cX7_tellOdds 1 = .ok (.getfield 58, 3) := by decide +kernel
theorem dX7_tellOdds_4 : decode cX7_tellOdds 4 = .ok (.aload_n 0, 1) := by decide +kernel
theorem dX7_tellOdds_5 : decode cX7_tellOdds 5 = .ok (.getfield 51, 3) := by decide +kernel
theorem dX7_tellOdds_8 : decode cX7_tellOdds 8 = .ok (.iload_n 1, 1) := by decide +kernel
theorem dX7_tellOdds_9 : decode cX7_tellOdds 9 = .ok (.invokevirtual 194, 3) := by decide +kernel
theorem dX7_tellOdds_12 : decode cX7_tellOdds 12 = .ok (.aload_n 0, 1) := by decide +kernel
theorem dX7_tellOdds_13 : decode cX7_tellOdds 13 = .ok (.getfield 51, 3) := by decide +kernel
theorem dX7_tellOdds_16 : decode cX7_tellOdds 16 = .ok (.getfield 198, 3) := by decide +kernel
theorem dX7_tellOdds_19 : decode cX7_tellOdds 19 = .ok (.invokevirtual 202, 3) := by decide +kernel
theorem dX7_tellOdds_22 : decode cX7_tellOdds 22 = .ok (.aload_n 0, 1) := by decide +kernel
theorem dX7_tellOdds_23 : decode cX7_tellOdds 23 = .ok (.getfield 58, 3) := by decide +kernel
theorem dX7_tellOdds_26 : decode cX7_tellOdds 26 = .ok (.invokevirtual 208, 3) := by decide +kernel
theorem dX7_tellOdds_29 : decode cX7_tellOdds 29 = .ok (.aload_n 0, 1) := by decide +kernel
theorem dX7_tellOdds_30 : decode cX7_tellOdds 30 = .ok (.getfield 58, 3) := by decide +kernel
theorem dX7_tellOdds_33 : decode cX7_tellOdds 33 = .ok (.iload_n 2, 1) := by decide +kernel
theorem dX7_tellOdds_34 : decode cX7_tellOdds 34 = .ok (.invokevirtual 211, 3) := by decide +kernel
theorem dX7_tellOdds_37 : decode cX7_tellOdds 37 = .ok (.lreturn, 1) := by decide +kernel
theorem dX7_sixes_0 : decode cX7_sixes 0 = .ok (.iload_n 0, 1) := by decide +kernel
theorem dX7_sixes_1 : decode cX7_sixes 1 = .ok (.ifCond .lt 19, 3) := by decide +kernel
theorem dX7_sixes_4 : decode cX7_sixes 4 = .ok (.iload_n 0, 1) := by decide +kernel
theorem dX7_sixes_5 : decode cX7_sixes 5 = .ok (.getstatic 348, 3) := by decide +kernel
theorem dX7_sixes_8 : decode cX7_sixes 8 = .ok (.arraylength, 1) := by decide +kernel
theorem dX7_sixes_9 : decode cX7_sixes 9 = .ok (.if_icmp .ge 11, 3) := by decide +kernel
theorem dX7_sixes_12 : decode cX7_sixes 12 = .ok (.getstatic 348, 3) := by decide +kernel
theorem dX7_sixes_15 : decode cX7_sixes 15 = .ok (.iload_n 0, 1) := by decide +kernel
theorem dX7_sixes_16 : decode cX7_sixes 16 = .ok (.laload, 1) := by decide +kernel
theorem dX7_sixes_17 : decode cX7_sixes 17 = .ok (.goto 4, 3) := by decide +kernel
theorem dX7_sixes_20 : decode cX7_sixes 20 = .ok (.lconst 1, 1) := by decide +kernel
theorem dX7_sixes_21 : decode cX7_sixes 21 = .ok (.lreturn, 1) := by decide +kernel
theorem dX7_rowsOf_0 : decode cX7_rowsOf 0 = .ok (.iload_n 0, 1) := by decide +kernel
theorem dX7_rowsOf_1 : decode cX7_rowsOf 1 = .ok (.ifCond .lt 19, 3) := by decide +kernel
theorem dX7_rowsOf_4 : decode cX7_rowsOf 4 = .ok (.iload_n 0, 1) := by decide +kernel
theorem dX7_rowsOf_5 : decode cX7_rowsOf 5 = .ok (.getstatic 352, 3) := by decide +kernel
theorem dX7_rowsOf_8 : decode cX7_rowsOf 8 = .ok (.arraylength, 1) := by decide +kernel
theorem dX7_rowsOf_9 : decode cX7_rowsOf 9 = .ok (.if_icmp .ge 11, 3) := by decide +kernel
theorem dX7_rowsOf_12 : decode cX7_rowsOf 12 = .ok (.getstatic 352, 3) := by decide +kernel
theorem dX7_rowsOf_15 : decode cX7_rowsOf 15 = .ok (.iload_n 0, 1) := by decide +kernel
theorem dX7_rowsOf_16 : decode cX7_rowsOf 16 = .ok (.iaload, 1) := by decide +kernel
theorem dX7_rowsOf_17 : decode cX7_rowsOf 17 = .ok (.goto 4, 3) := by decide +kernel
theorem dX7_rowsOf_20 : decode cX7_rowsOf 20 = .ok (.iconst 0, 1) := by decide +kernel
theorem dX7_rowsOf_21 : decode cX7_rowsOf 21 = .ok (.ireturn, 1) := by decide +kernel
theorem dX7_tens_0 : decode cX7_tens 0 = .ok (.iload_n 0, 1) := by decide +kernel
theorem dX7_tens_1 : decode cX7_tens 1 = .ok (.ifCond .lt 19, 3) := by decide +kernel
theorem dX7_tens_4 : decode cX7_tens 4 = .ok (.iload_n 0, 1) := by decide +kernel
theorem dX7_tens_5 : decode cX7_tens 5 = .ok (.getstatic 355, 3) := by decide +kernel
theorem dX7_tens_8 : decode cX7_tens 8 = .ok (.arraylength, 1) := by decide +kernel
theorem dX7_tens_9 : decode cX7_tens 9 = .ok (.if_icmp .ge 11, 3) := by decide +kernel
theorem dX7_tens_12 : decode cX7_tens 12 = .ok (.getstatic 355, 3) := by decide +kernel
theorem dX7_tens_15 : decode cX7_tens 15 = .ok (.iload_n 0, 1) := by decide +kernel
theorem dX7_tens_16 : decode cX7_tens 16 = .ok (.iaload, 1) := by decide +kernel
theorem dX7_tens_17 : decode cX7_tens 17 = .ok (.goto 4, 3) := by decide +kernel
theorem dX7_tens_20 : decode cX7_tens 20 = .ok (.iconst 1, 1) := by decide +kernel
theorem dX7_tens_21 : decode cX7_tens 21 = .ok (.ireturn, 1) := by decide +kernel
theorem dX7_digitAt_0 : decode cX7_digitAt 0 = .ok (.iload_n 2, 1) := by decide +kernel
theorem dX7_digitAt_1 : decode cX7_digitAt 1 = .ok (.iconst 1, 1) := by decide +kernel
theorem dX7_digitAt_2 : decode cX7_digitAt 2 = .ok (.isub, 1) := by decide +kernel
theorem dX7_digitAt_3 : decode cX7_digitAt 3 = .ok (.iload_n 1, 1) := by decide +kernel
theorem dX7_digitAt_4 : decode cX7_digitAt 4 = .ok (.isub, 1) := by decide +kernel
theorem dX7_digitAt_5 : decode cX7_digitAt 5 = .ok (.invokestatic 358, 3) := by decide +kernel
theorem dX7_digitAt_8 : decode cX7_digitAt 8 = .ok (.istore_n 3, 1) := by decide +kernel
theorem dX7_digitAt_9 : decode cX7_digitAt 9 = .ok (.iload_n 3, 1) := by decide +kernel
theorem dX7_digitAt_10 : decode cX7_digitAt 10 = .ok (.ifCond .le 12, 3) := by decide +kernel
theorem dX7_digitAt_13 : decode cX7_digitAt 13 = .ok (.iload_n 0, 1) := by decide +kernel
theorem dX7_digitAt_14 : decode cX7_digitAt 14 = .ok (.iload_n 3, 1) := by decide +kernel
theorem dX7_digitAt_15 : decode cX7_digitAt 15 = .ok (.idiv, 1) := by decide +kernel
theorem dX7_digitAt_16 : decode cX7_digitAt 16 = .ok (.bipush 10, 2) := by decide +kernel
theorem dX7_digitAt_18 : decode cX7_digitAt 18 = .ok (.irem, 1) := by decide +kernel
theorem dX7_digitAt_19 : decode cX7_digitAt 19 = .ok (.goto 4, 3) := by decide +kernel
theorem dX7_digitAt_22 : decode cX7_digitAt 22 = .ok (.iconst 0, 1) := by decide +kernel
theorem dX7_digitAt_23 : decode cX7_digitAt 23 = .ok (.ireturn, 1) := by decide +kernel
theorem dX7_isRow_0 : decode cX7_isRow 0 = .ok (.iload_n 0, 1) := by decide +kernel
theorem dX7_isRow_1 : decode cX7_isRow 1 = .ok (.ifCond .lt 11, 3) := by decide +kernel
theorem dX7_isRow_4 : decode cX7_isRow 4 = .ok (.iload_n 0, 1) := by decide +kernel
theorem dX7_isRow_5 : decode cX7_isRow 5 = .ok (.iload_n 1, 1) := by decide +kernel
theorem dX7_isRow_6 : decode cX7_isRow 6 = .ok (.invokestatic 358, 3) := by decide +kernel
theorem dX7_isRow_9 : decode cX7_isRow 9 = .ok (.if_icmp .lt 5, 3) := by decide +kernel
theorem dX7_isRow_12 : decode cX7_isRow 12 = .ok (.iconst 0, 1) := by decide +kernel
theorem dX7_isRow_13 : decode cX7_isRow 13 = .ok (.ireturn, 1) := by decide +kernel
theorem dX7_isRow_14 : decode cX7_isRow 14 = .ok (.iconst 0, 1) := by decide +kernel
theorem dX7_isRow_15 : decode cX7_isRow 15 = .ok (.istore_n 2, 1) := by decide +kernel
theorem dX7_isRow_16 : decode cX7_isRow 16 = .ok (.iconst 0, 1) := by decide +kernel
theorem dX7_isRow_17 : decode cX7_isRow 17 = .ok (.istore_n 3, 1) := by decide +kernel
theorem dX7_isRow_18 : decode cX7_isRow 18 = .ok (.iload_n 3, 1) := by decide +kernel
theorem dX7_isRow_19 : decode cX7_isRow 19 = .ok (.iload_n 1, 1) := by decide +kernel
theorem dX7_isRow_20 : decode cX7_isRow 20 = .ok (.if_icmp .ge 20, 3) := by decide +kernel
theorem dX7_isRow_23 : decode cX7_isRow 23 = .ok (.iload_n 2, 1) := by decide +kernel
theorem dX7_isRow_24 : decode cX7_isRow 24 = .ok (.iconst 1, 1) := by decide +kernel
theorem dX7_isRow_25 : decode cX7_isRow 25 = .ok (.iload_n 0, 1) := by decide +kernel
theorem dX7_isRow_26 : decode cX7_isRow 26 = .ok (.iload_n 3, 1) := by decide +kernel
theorem dX7_isRow_27 : decode cX7_isRow 27 = .ok (.iload_n 1, 1) := by decide +kernel
theorem dX7_isRow_28 : decode cX7_isRow 28 = .ok (.invokestatic 361, 3) := by decide +kernel
theorem dX7_isRow_31 : decode cX7_isRow 31 = .ok (.ishl, 1) := by decide +kernel
theorem dX7_isRow_32 : decode cX7_isRow 32 = .ok (.ior, 1) := by decide +kernel
theorem dX7_isRow_33 : decode cX7_isRow 33 = .ok (.istore_n 2, 1) := by decide +kernel
theorem dX7_isRow_34 : decode cX7_isRow 34 = .ok (.iinc 3 1, 3) := by decide +kernel
theorem dX7_isRow_37 : decode cX7_isRow 37 = .ok (.goto (-19), 3) := by decide +kernel
theorem dX7_isRow_40 : decode cX7_isRow 40 = .ok (.iload_n 2, 1) := by decide +kernel
theorem dX7_isRow_41 : decode cX7_isRow 41 = .ok (.iconst 1, 1) := by decide +kernel
theorem dX7_isRow_42 : decode cX7_isRow 42 = .ok (.iload_n 1, 1) := by decide +kernel
theorem dX7_isRow_43 : decode cX7_isRow 43 = .ok (.ishl, 1) := by decide +kernel
theorem dX7_isRow_44 : decode cX7_isRow 44 = .ok (.iconst 1, 1) := by decide +kernel
theorem dX7_isRow_45 : decode cX7_isRow 45 = .ok (.isub, 1) := by decide +kernel
theorem dX7_isRow_46 : decode cX7_isRow 46 = .ok (.if_icmp .ne 7, 3) := by decide +kernel
theorem dX7_isRow_49 : decode cX7_isRow 49 = .ok (.iconst 1, 1) := by decide +kernel
theorem dX7_isRow_50 : decode cX7_isRow 50 = .ok (.goto 4, 3) := by decide +kernel
theorem dX7_isRow_53 : decode cX7_isRow 53 = .ok (.iconst 0, 1) := by decide +kernel
theorem dX7_isRow_54 : decode cX7_isRow 54 = .ok (.ireturn, 1) := by decide +kernel
theorem dX7_rowAt_0 : decode cX7_rowAt 0 = .ok (.iconst 0, 1) := by decide +kernel
theorem dX7_rowAt_1 : decode cX7_rowAt 1 = .ok (.istore_n 2, 1) := by decide +kernel
theorem dX7_rowAt_2 : decode cX7_rowAt 2 = .ok (.iconst 0, 1) := by decide +kernel
theorem dX7_rowAt_3 : decode cX7_rowAt 3 = .ok (.istore_n 3, 1) := by decide +kernel
theorem dX7_rowAt_4 : decode cX7_rowAt 4 = .ok (.iload_n 0, 1) := by decide +kernel
theorem dX7_rowAt_5 : decode cX7_rowAt 5 = .ok (.istore 4, 2) := by decide +kernel
theorem dX7_rowAt_7 : decode cX7_rowAt 7 = .ok (.iconst 0, 1) := by decide +kernel
theorem dX7_rowAt_8 : decode cX7_rowAt 8 = .ok (.istore 5, 2) := by decide +kernel
theorem dX7_rowAt_10 : decode cX7_rowAt 10 = .ok (.iload 5, 2) := by decide +kernel
theorem dX7_rowAt_12 : decode cX7_rowAt 12 = .ok (.iload_n 1, 1) := by decide +kernel
theorem dX7_rowAt_13 : decode cX7_rowAt 13 = .ok (.if_icmp .ge 70, 3) := by decide +kernel
theorem dX7_rowAt_16 : decode cX7_rowAt 16 = .ok (.iload_n 1, 1) := by decide +kernel
theorem dX7_rowAt_17 : decode cX7_rowAt 17 = .ok (.iconst 1, 1) := by decide +kernel
theorem dX7_rowAt_18 : decode cX7_rowAt 18 = .ok (.isub, 1) := by decide +kernel
theorem dX7_rowAt_19 : decode cX7_rowAt 19 = .ok (.iload 5, 2) := by decide +kernel
theorem dX7_rowAt_21 : decode cX7_rowAt 21 = .ok (.isub, 1) := by decide +kernel
theorem dX7_rowAt_22 : decode cX7_rowAt 22 = .ok (.invokestatic 261, 3) := by decide +kernel
theorem dX7_rowAt_25 : decode cX7_rowAt 25 = .ok (.istore 6, 2) := by decide +kernel
theorem dX7_rowAt_27 : decode cX7_rowAt 27 = .ok (.iload 6, 2) := by decide +kernel
theorem dX7_rowAt_29 : decode cX7_rowAt 29 = .ok (.ifCond .le 11, 3) := by decide +kernel
theorem dX7_rowAt_32 : decode cX7_rowAt 32 = .ok (.iload 4, 2) := by decide +kernel
theorem dX7_rowAt_34 : decode cX7_rowAt 34 = .ok (.iload 6, 2) := by decide +kernel
theorem dX7_rowAt_36 : decode cX7_rowAt 36 = .ok (.idiv, 1) := by decide +kernel
theorem dX7_rowAt_37 : decode cX7_rowAt 37 = .ok (.goto 4, 3) := by decide +kernel
theorem dX7_rowAt_40 : decode cX7_rowAt 40 = .ok (.iconst 0, 1) := by decide +kernel
theorem dX7_rowAt_41 : decode cX7_rowAt 41 = .ok (.istore 7, 2) := by decide +kernel
theorem dX7_rowAt_43 : decode cX7_rowAt 43 = .ok (.iload 4, 2) := by decide +kernel
theorem dX7_rowAt_45 : decode cX7_rowAt 45 = .ok (.iload 7, 2) := by decide +kernel
theorem dX7_rowAt_47 : decode cX7_rowAt 47 = .ok (.iload 6, 2) := by decide +kernel
theorem dX7_rowAt_49 : decode cX7_rowAt 49 = .ok (.imul, 1) := by decide +kernel
theorem dX7_rowAt_50 : decode cX7_rowAt 50 = .ok (.isub, 1) := by decide +kernel
theorem dX7_rowAt_51 : decode cX7_rowAt 51 = .ok (.istore 4, 2) := by decide +kernel
theorem dX7_rowAt_53 : decode cX7_rowAt 53 = .ok (.iload_n 2, 1) := by decide +kernel
theorem dX7_rowAt_54 : decode cX7_rowAt 54 = .ok (.iload 7, 2) := by decide +kernel
theorem dX7_rowAt_56 : decode cX7_rowAt 56 = .ok (.iload_n 1, 1) := by decide +kernel
theorem dX7_rowAt_57 : decode cX7_rowAt 57 = .ok (.invokestatic 365, 3) := by decide +kernel
theorem dX7_rowAt_60 : decode cX7_rowAt 60 = .ok (.istore 8, 2) := by decide +kernel
theorem dX7_rowAt_62 : decode cX7_rowAt 62 = .ok (.iload_n 2, 1) := by decide +kernel
theorem dX7_rowAt_63 : decode cX7_rowAt 63 = .ok (.iconst 1, 1) := by decide +kernel
theorem dX7_rowAt_64 : decode cX7_rowAt 64 = .ok (.iload 8, 2) := by decide +kernel
theorem dX7_rowAt_66 : decode cX7_rowAt 66 = .ok (.ishl, 1) := by decide +kernel
theorem dX7_rowAt_67 : decode cX7_rowAt 67 = .ok (.ior, 1) := by decide +kernel
theorem dX7_rowAt_68 : decode cX7_rowAt 68 = .ok (.istore_n 2, 1) := by decide +kernel
theorem dX7_rowAt_69 : decode cX7_rowAt 69 = .ok (.bipush 10, 2) := by decide +kernel
theorem dX7_rowAt_71 : decode cX7_rowAt 71 = .ok (.iload_n 3, 1) := by decide +kernel
theorem dX7_rowAt_72 : decode cX7_rowAt 72 = .ok (.imul, 1) := by decide +kernel
theorem dX7_rowAt_73 : decode cX7_rowAt 73 = .ok (.iload 8, 2) := by decide +kernel
theorem dX7_rowAt_75 : decode cX7_rowAt 75 = .ok (.iadd, 1) := by decide +kernel
theorem dX7_rowAt_76 : decode cX7_rowAt 76 = .ok (.istore_n 3, 1) := by decide +kernel
theorem dX7_rowAt_77 : decode cX7_rowAt 77 = .ok (.iinc 5 1, 3) := by decide +kernel
theorem dX7_rowAt_80 : decode cX7_rowAt 80 = .ok (.goto (-70), 3) := by decide +kernel
theorem dX7_rowAt_83 : decode cX7_rowAt 83 = .ok (.iload_n 3, 1) := by decide +kernel
theorem dX7_rowAt_84 : decode cX7_rowAt 84 = .ok (.ireturn, 1) := by decide +kernel
theorem dX7_freeDigit_0 : decode cX7_freeDigit 0 = .ok (.iload_n 1, 1) := by decide +kernel
theorem dX7_freeDigit_1 : decode cX7_freeDigit 1 = .ok (.istore_n 3, 1) := by decide +kernel
theorem dX7_freeDigit_2 : decode cX7_freeDigit 2 = .ok (.iconst 0, 1) := by decide +kernel
theorem dX7_freeDigit_3 : decode cX7_freeDigit 3 = .ok (.istore 4, 2) := by decide +kernel
theorem dX7_freeDigit_5 : decode cX7_freeDigit 5 = .ok (.iload 4, 2) := by decide +kernel
theorem dX7_freeDigit_7 : decode cX7_freeDigit 7 = .ok (.iload_n 2, 1) := by decide +kernel
theorem dX7_freeDigit_8 : decode cX7_freeDigit 8 = .ok (.if_icmp .ge 28, 3) := by decide +kernel
theorem dX7_freeDigit_11 : decode cX7_freeDigit 11 = .ok (.iload_n 0, 1) := by decide +kernel
theorem dX7_freeDigit_12 : decode cX7_freeDigit 12 = .ok (.iload 4, 2) := by decide +kernel
theorem dX7_freeDigit_14 : decode cX7_freeDigit 14 = .ok (.ishr, 1) := by decide +kernel
theorem dX7_freeDigit_15 : decode cX7_freeDigit 15 = .ok (.iconst 1, 1) := by decide +kernel
theorem dX7_freeDigit_16 : decode cX7_freeDigit 16 = .ok (.iand, 1) := by decide +kernel
theorem dX7_freeDigit_17 : decode cX7_freeDigit 17 = .ok (.ifCond .ne 13, 3) := by decide +kernel
theorem dX7_freeDigit_20 : decode cX7_freeDigit 20 = .ok (.iload_n 3, 1) := by decide +kernel
theorem dX7_freeDigit_21 : decode cX7_freeDigit 21 = .ok (.ifCond .ne 6, 3) := by decide +kernel
theorem dX7_freeDigit_24 : decode cX7_freeDigit 24 = .ok (.iload 4, 2) := by decide +kernel
theorem dX7_freeDigit_26 : decode cX7_freeDigit 26 = .ok (.ireturn, 1) := by decide +kernel
theorem dX7_freeDigit_27 : decode cX7_freeDigit 27 = .ok (.iinc 3 (-1), 3) := by decide +kernel
theorem dX7_freeDigit_30 : decode cX7_freeDigit 30 = .ok (.iinc 4 1, 3) := by decide +kernel
theorem dX7_freeDigit_33 : decode cX7_freeDigit 33 = .ok (.goto (-28), 3) := by decide +kernel
theorem dX7_freeDigit_36 : decode cX7_freeDigit 36 = .ok (.iconst 0, 1) := by decide +kernel
theorem dX7_freeDigit_37 : decode cX7_freeDigit 37 = .ok (.ireturn, 1) := by decide +kernel
theorem dX7_swapPlaces_0 : decode cX7_swapPlaces 0 = .ok (.iload_n 0, 1) := by decide +kernel
theorem dX7_swapPlaces_1 : decode cX7_swapPlaces 1 = .ok (.iload_n 2, 1) := by decide +kernel
theorem dX7_swapPlaces_2 : decode cX7_swapPlaces 2 = .ok (.iload_n 3, 1) := by decide +kernel
theorem dX7_swapPlaces_3 : decode cX7_swapPlaces 3 = .ok (.invokestatic 361, 3) := by decide +kernel
theorem dX7_swapPlaces_6 : decode cX7_swapPlaces 6 = .ok (.iload_n 0, 1) := by decide +kernel
theorem dX7_swapPlaces_7 : decode cX7_swapPlaces 7 = .ok (.iload_n 1, 1) := by decide +kernel
theorem dX7_swapPlaces_8 : decode cX7_swapPlaces 8 = .ok (.iload_n 3, 1) := by decide +kernel
theorem dX7_swapPlaces_9 : decode cX7_swapPlaces 9 = .ok (.invokestatic 361, 3) := by decide +kernel
theorem dX7_swapPlaces_12 : decode cX7_swapPlaces 12 = .ok (.isub, 1) := by decide +kernel
theorem dX7_swapPlaces_13 : decode cX7_swapPlaces 13 = .ok (.istore 4, 2) := by decide +kernel
theorem dX7_swapPlaces_15 : decode cX7_swapPlaces 15 = .ok (.iload_n 0, 1) := by decide +kernel
theorem dX7_swapPlaces_16 : decode cX7_swapPlaces 16 = .ok (.iload 4, 2) := by decide +kernel
theorem dX7_swapPlaces_18 : decode cX7_swapPlaces 18 = .ok (.iload_n 3, 1) := by decide +kernel
theorem dX7_swapPlaces_19 : decode cX7_swapPlaces 19 = .ok (.iconst 1, 1) := by decide +kernel
theorem dX7_swapPlaces_20 : decode cX7_swapPlaces 20 = .ok (.isub, 1) := by decide +kernel
theorem dX7_swapPlaces_21 : decode cX7_swapPlaces 21 = .ok (.iload_n 1, 1) := by decide +kernel
theorem dX7_swapPlaces_22 : decode cX7_swapPlaces 22 = .ok (.isub, 1) := by decide +kernel
theorem dX7_swapPlaces_23 : decode cX7_swapPlaces 23 = .ok (.invokestatic 358, 3) := by decide +kernel
theorem dX7_swapPlaces_26 : decode cX7_swapPlaces 26 = .ok (.imul, 1) := by decide +kernel
theorem dX7_swapPlaces_27 : decode cX7_swapPlaces 27 = .ok (.iadd, 1) := by decide +kernel
theorem dX7_swapPlaces_28 : decode cX7_swapPlaces 28 = .ok (.iload 4, 2) := by decide +kernel
theorem dX7_swapPlaces_30 : decode cX7_swapPlaces 30 = .ok (.iload_n 3, 1) := by decide +kernel
theorem dX7_swapPlaces_31 : decode cX7_swapPlaces 31 = .ok (.iconst 1, 1) := by decide +kernel
theorem dX7_swapPlaces_32 : decode cX7_swapPlaces 32 = .ok (.isub, 1) := by decide +kernel
theorem dX7_swapPlaces_33 : decode cX7_swapPlaces 33 = .ok (.iload_n 2, 1) := by decide +kernel
theorem dX7_swapPlaces_34 : decode cX7_swapPlaces 34 = .ok (.isub, 1) := by decide +kernel
theorem dX7_swapPlaces_35 : decode cX7_swapPlaces 35 = .ok (.invokestatic 358, 3) := by decide +kernel
theorem dX7_swapPlaces_38 : decode cX7_swapPlaces 38 = .ok (.imul, 1) := by decide +kernel
theorem dX7_swapPlaces_39 : decode cX7_swapPlaces 39 = .ok (.isub, 1) := by decide +kernel
theorem dX7_swapPlaces_40 : decode cX7_swapPlaces 40 = .ok (.ireturn, 1) := by decide +kernel
theorem dX7_setTrialRow_0 : decode cX7_setTrialRow 0 = .ok (.aload_n 0, 1) := by decide +kernel
theorem dX7_setTrialRow_1 : decode cX7_setTrialRow 1 = .ok (.getfield 26, 3) := by decide +kernel
theorem dX7_setTrialRow_4 : decode cX7_setTrialRow 4 = .ok (.getfield 104, 3) := by decide +kernel
theorem dX7_setTrialRow_7 : decode cX7_setTrialRow 7 = .ok (.istore_n 3, 1) := by decide +kernel
theorem dX7_setTrialRow_8 : decode cX7_setTrialRow 8 = .ok (.iconst 0, 1) := by decide +kernel
theorem dX7_setTrialRow_9 : decode cX7_setTrialRow 9 = .ok (.istore 4, 2) := by decide +kernel
theorem dX7_setTrialRow_11 : decode cX7_setTrialRow 11 = .ok (.iload 4, 2) := by decide +kernel
theorem dX7_setTrialRow_13 : decode cX7_setTrialRow 13 = .ok (.iload_n 3, 1) := by decide +kernel
theorem dX7_setTrialRow_14 : decode cX7_setTrialRow 14 = .ok (.if_icmp .ge 34, 3) := by decide +kernel
theorem dX7_setTrialRow_17 : decode cX7_setTrialRow 17 = .ok (.aload_n 0, 1) := by decide +kernel
theorem dX7_setTrialRow_18 : decode cX7_setTrialRow 18 = .ok (.getfield 30, 3) := by decide +kernel
theorem dX7_setTrialRow_21 : decode cX7_setTrialRow 21 = .ok (.iload_n 1, 1) := by decide +kernel
theorem dX7_setTrialRow_22 : decode cX7_setTrialRow 22 = .ok (.iload 4, 2) := by decide +kernel
theorem dX7_setTrialRow_24 : decode cX7_setTrialRow 24 = .ok (.aload_n 0, 1) := by decide +kernel
theorem dX7_setTrialRow_25 : decode cX7_setTrialRow 25 = .ok (.getfield 26, 3) := by decide +kernel
theorem dX7_setTrialRow_28 : decode cX7_setTrialRow 28 = .ok (.iload_n 1, 1) := by decide +kernel
theorem dX7_setTrialRow_29 : decode cX7_setTrialRow 29 = .ok (.iload_n 2, 1) := by decide +kernel
theorem dX7_setTrialRow_30 : decode cX7_setTrialRow 30 = .ok (.iload 4, 2) := by decide +kernel
theorem dX7_setTrialRow_32 : decode cX7_setTrialRow 32 = .ok (.iload_n 3, 1) := by decide +kernel
theorem dX7_setTrialRow_33 : decode cX7_setTrialRow 33 = .ok (.invokestatic 361, 3) := by decide +kernel
theorem dX7_setTrialRow_36 : decode cX7_setTrialRow 36 = .ok (.invokevirtual 122, 3) := by decide +kernel
theorem dX7_setTrialRow_39 : decode cX7_setTrialRow 39 = .ok (.invokevirtual 155, 3) := by decide +kernel
theorem dX7_setTrialRow_42 : decode cX7_setTrialRow 42 = .ok (.iinc 4 1, 3) := by decide +kernel
theorem dX7_setTrialRow_45 : decode cX7_setTrialRow 45 = .ok (.goto (-34), 3) := by decide +kernel
theorem dX7_setTrialRow_48 : decode cX7_setTrialRow 48 = .ok (.return_, 1) := by decide +kernel
theorem dX7_bestExchange_0 : decode cX7_bestExchange 0 = .ok (.aload_n 0, 1) := by decide +kernel
theorem dX7_bestExchange_1 : decode cX7_bestExchange 1 = .ok (.getfield 26, 3) := by decide +kernel
theorem dX7_bestExchange_4 : decode cX7_bestExchange 4 = .ok (.getfield 104, 3) := by decide +kernel
theorem dX7_bestExchange_7 : decode cX7_bestExchange 7 = .ok (.istore_n 3, 1) := by decide +kernel
theorem dX7_bestExchange_8 : decode cX7_bestExchange 8 = .ok (.iload_n 2, 1) := by decide +kernel
theorem dX7_bestExchange_9 : decode cX7_bestExchange 9 = .ok (.istore 4, 2) := by decide +kernel
theorem dX7_bestExchange_11 : decode cX7_bestExchange 11 = .ok (.iconst 0, 1) := by decide +kernel
theorem dX7_bestExchange_12 : decode cX7_bestExchange 12 = .ok (.istore 5, 2) := by decide +kernel
theorem dX7_bestExchange_14 : decode cX7_bestExchange 14 = .ok (.iload 5, 2) := by decide +kernel
theorem dX7_bestExchange_16 : decode cX7_bestExchange 16 = .ok (.iload_n 3, 1) := by decide +kernel
theorem dX7_bestExchange_17 : decode cX7_bestExchange 17 = .ok (.if_icmp .ge 97, 3) := by decide +kernel
theorem dX7_bestExchange_20 : decode cX7_bestExchange 20 = .ok (.iload 5, 2) := by decide +kernel
theorem dX7_bestExchange_22 : decode cX7_bestExchange 22 = .ok (.iconst 1, 1) := by decide +kernel
theorem dX7_bestExchange_23 : decode cX7_bestExchange 23 = .ok (.iadd, 1) := by decide +kernel
theorem dX7_bestExchange_24 : decode cX7_bestExchange 24 = .ok (.istore 6, 2) := by decide +kernel
theorem dX7_bestExchange_26 : decode cX7_bestExchange 26 = .ok (.iload 6, 2) := by decide +kernel
theorem dX7_bestExchange_28 : decode cX7_bestExchange 28 = .ok (.iload_n 3, 1) := by decide +kernel
theorem dX7_bestExchange_29 : decode cX7_bestExchange 29 = .ok (.if_icmp .ge 79, 3) := by decide +kernel
theorem dX7_bestExchange_32 : decode cX7_bestExchange 32 = .ok (.iload_n 2, 1) := by decide +kernel
theorem dX7_bestExchange_33 : decode cX7_bestExchange 33 = .ok (.iload 5, 2) := by decide +kernel
theorem dX7_bestExchange_35 : decode cX7_bestExchange 35 = .ok (.iload 6, 2) := by decide +kernel
theorem dX7_bestExchange_37 : decode cX7_bestExchange 37 = .ok (.iload_n 3, 1) := by decide +kernel
theorem dX7_bestExchange_38 : decode cX7_bestExchange 38 = .ok (.invokestatic 368, 3) := by decide +kernel
theorem dX7_bestExchange_41 : decode cX7_bestExchange 41 = .ok (.istore 7, 2) := by decide +kernel
theorem dX7_bestExchange_43 : decode cX7_bestExchange 43 = .ok (.aload_n 0, 1) := by decide +kernel
theorem dX7_bestExchange_44 : decode cX7_bestExchange 44 = .ok (.iload_n 1, 1) := by decide +kernel
theorem dX7_bestExchange_45 : decode cX7_bestExchange 45 = .ok (.iload 7, 2) := by decide +kernel
theorem dX7_bestExchange_47 : decode cX7_bestExchange 47 = .ok (.invokevirtual 258, 3) := by decide +kernel
theorem dX7_bestExchange_50 : decode cX7_bestExchange 50 = .ok (.aload_n 0, 1) := by decide +kernel
theorem dX7_bestExchange_51 : decode cX7_bestExchange 51 = .ok (.getfield 51, 3) := by decide +kernel
theorem dX7_bestExchange_54 : decode cX7_bestExchange 54 = .ok (.aload_n 0, 1) := by decide +kernel
theorem dX7_bestExchange_55 : decode cX7_bestExchange 55 = .ok (.getfield 30, 3) := by decide +kernel
theorem dX7_bestExchange_58 : decode cX7_bestExchange 58 = .ok (.invokevirtual 185, 3) := by decide +kernel
theorem dX7_bestExchange_61 : decode cX7_bestExchange 61 = .ok (.aload_n 0, 1) := by decide +kernel
theorem dX7_bestExchange_62 : decode cX7_bestExchange 62 = .ok (.getfield 51, 3) := by decide +kernel
theorem dX7_bestExchange_65 : decode cX7_bestExchange 65 = .ok (.iload_n 1, 1) := by decide +kernel
theorem dX7_bestExchange_66 : decode cX7_bestExchange 66 = .ok (.aload_n 0, 1) := by decide +kernel
theorem dX7_bestExchange_67 : decode cX7_bestExchange 67 = .ok (.getfield 62, 3) := by decide +kernel
theorem dX7_bestExchange_70 : decode cX7_bestExchange 70 = .ok (.invokevirtual 267, 3) := by decide +kernel
theorem dX7_bestExchange_73 : decode cX7_bestExchange 73 = .ok (.ifCond .le 29, 3) := by decide +kernel
theorem dX7_bestExchange_76 : decode cX7_bestExchange 76 = .ok (.aload_n 0, 1) := by decide +kernel
theorem dX7_bestExchange_77 : decode cX7_bestExchange 77 = .ok (.getfield 62, 3) := by decide +kernel
theorem dX7_bestExchange_80 : decode cX7_bestExchange 80 = .ok (.aload_n 0, 1) := by decide +kernel
theorem dX7_bestExchange_81 : decode cX7_bestExchange 81 = .ok (.getfield 51, 3) := by decide +kernel
theorem dX7_bestExchange_84 : decode cX7_bestExchange 84 = .ok (.iload_n 1, 1) := by decide +kernel
theorem dX7_bestExchange_85 : decode cX7_bestExchange 85 = .ok (.invokevirtual 194, 3) := by decide +kernel
theorem dX7_bestExchange_88 : decode cX7_bestExchange 88 = .ok (.aload_n 0, 1) := by decide +kernel
theorem dX7_bestExchange_89 : decode cX7_bestExchange 89 = .ok (.getfield 51, 3) := by decide +kernel
theorem dX7_bestExchange_92 : decode cX7_bestExchange 92 = .ok (.getfield 198, 3) := by decide +kernel
theorem dX7_bestExchange_95 : decode cX7_bestExchange 95 = .ok (.invokevirtual 202, 3) := by decide +kernel
theorem dX7_bestExchange_98 : decode cX7_bestExchange 98 = .ok (.iload 7, 2) := by decide +kernel
theorem dX7_bestExchange_100 : decode cX7_bestExchange 100 = .ok (.istore 4, 2) := by decide +kernel
theorem dX7_bestExchange_102 : decode cX7_bestExchange 102 = .ok (.iinc 6 1, 3) := by decide +kernel
theorem dX7_bestExchange_105 : decode cX7_bestExchange 105 = .ok (.goto (-79), 3) := by decide +kernel
theorem dX7_bestExchange_108 : decode cX7_bestExchange 108 = .ok (.iinc 5 1, 3) := by decide +kernel
theorem dX7_bestExchange_111 : decode cX7_bestExchange 111 = .ok (.goto (-97), 3) := by decide +kernel
theorem dX7_bestExchange_114 : decode cX7_bestExchange 114 = .ok (.iload 4, 2) := by decide +kernel
theorem dX7_bestExchange_116 : decode cX7_bestExchange 116 = .ok (.ireturn, 1) := by decide +kernel
theorem dX7_findRests_0 : decode cX7_findRests 0 = .ok (.aload_n 0, 1) := by decide +kernel
theorem dX7_findRests_1 : decode cX7_findRests 1 = .ok (.invokevirtual 255, 3) := by decide +kernel
theorem dX7_findRests_4 : decode cX7_findRests 4 = .ok (.aload_n 0, 1) := by decide +kernel
theorem dX7_findRests_5 : decode cX7_findRests 5 = .ok (.getfield 26, 3) := by decide +kernel
theorem dX7_findRests_8 : decode cX7_findRests 8 = .ok (.getfield 104, 3) := by decide +kernel
theorem dX7_findRests_11 : decode cX7_findRests 11 = .ok (.istore_n 1, 1) := by decide +kernel
theorem dX7_findRests_12 : decode cX7_findRests 12 = .ok (.iload_n 1, 1) := by decide +kernel
theorem dX7_findRests_13 : decode cX7_findRests 13 = .ok (.invokestatic 261, 3) := by decide +kernel
theorem dX7_findRests_16 : decode cX7_findRests 16 = .ok (.bipush 24, 2) := by decide +kernel
theorem dX7_findRests_18 : decode cX7_findRests 18 = .ok (.invokestatic 372, 3) := by decide +kernel
theorem dX7_findRests_21 : decode cX7_findRests 21 = .ok (.istore_n 2, 1) := by decide +kernel
theorem dX7_findRests_22 : decode cX7_findRests 22 = .ok (.aload_n 0, 1) := by decide +kernel
theorem dX7_findRests_23 : decode cX7_findRests 23 = .ok (.getfield 68, 3) := by decide +kernel
theorem dX7_findRests_26 : decode cX7_findRests 26 = .ok (.iload_n 2, 1) := by decide +kernel
theorem dX7_findRests_27 : decode cX7_findRests 27 = .ok (.invokevirtual 375, 3) := by decide +kernel
theorem dX7_findRests_30 : decode cX7_findRests 30 = .ok (.iconst 0, 1) := by decide +kernel
theorem dX7_findRests_31 : decode cX7_findRests 31 = .ok (.istore_n 3, 1) := by decide +kernel
theorem dX7_findRests_32 : decode cX7_findRests 32 = .ok (.iload_n 3, 1) := by decide +kernel
theorem dX7_findRests_33 : decode cX7_findRests 33 = .ok (.iload_n 2, 1) := by decide +kernel
theorem dX7_findRests_34 : decode cX7_findRests 34 = .ok (.if_icmp .ge 70, 3) := by decide +kernel
theorem dX7_findRests_37 : decode cX7_findRests 37 = .ok (.aload_n 0, 1) := by decide +kernel
theorem dX7_findRests_38 : decode cX7_findRests 38 = .ok (.iconst 0, 1) := by decide +kernel
theorem dX7_findRests_39 : decode cX7_findRests 39 = .ok (.iload_n 3, 1) := by decide +kernel
theorem dX7_findRests_40 : decode cX7_findRests 40 = .ok (.iload_n 1, 1) := by decide +kernel
theorem dX7_findRests_41 : decode cX7_findRests 41 = .ok (.invokestatic 264, 3) := by decide +kernel
theorem dX7_findRests_44 : decode cX7_findRests 44 = .ok (.invokevirtual 258, 3) := by decide +kernel
theorem dX7_findRests_47 : decode cX7_findRests 47 = .ok (.iconst 0, 1) := by decide +kernel
theorem dX7_findRests_48 : decode cX7_findRests 48 = .ok (.istore 4, 2) := by decide +kernel
theorem dX7_findRests_50 : decode cX7_findRests 50 = .ok (.iload 4, 2) := by decide +kernel
theorem dX7_findRests_52 : decode cX7_findRests 52 = .ok (.iload_n 2, 1) := by decide +kernel
theorem dX7_findRests_53 : decode cX7_findRests 53 = .ok (.if_icmp .ge 45, 3) := by decide +kernel
theorem dX7_findRests_56 : decode cX7_findRests 56 = .ok (.aload_n 0, 1) := by decide +kernel
theorem dX7_findRests_57 : decode cX7_findRests 57 = .ok (.iconst 1, 1) := by decide +kernel
theorem dX7_findRests_58 : decode cX7_findRests 58 = .ok (.iload 4, 2) := by decide +kernel
theorem dX7_findRests_60 : decode cX7_findRests 60 = .ok (.iload_n 1, 1) := by decide +kernel
theorem dX7_findRests_61 : decode cX7_findRests 61 = .ok (.invokestatic 264, 3) := by decide +kernel
theorem dX7_findRests_64 : decode cX7_findRests 64 = .ok (.invokevirtual 258, 3) := by decide +kernel
theorem dX7_findRests_67 : decode cX7_findRests 67 = .ok (.aload_n 0, 1) := by decide +kernel
theorem dX7_findRests_68 : decode cX7_findRests 68 = .ok (.getfield 51, 3) := by decide +kernel
theorem dX7_findRests_71 : decode cX7_findRests 71 = .ok (.aload_n 0, 1) := by decide +kernel
theorem dX7_findRests_72 : decode cX7_findRests 72 = .ok (.getfield 30, 3) := by decide +kernel
theorem dX7_findRests_75 : decode cX7_findRests 75 = .ok (.invokevirtual 185, 3) := by decide +kernel
theorem dX7_findRests_78 : decode cX7_findRests 78 = .ok (.aload_n 0, 1) := by decide +kernel
theorem dX7_findRests_79 : decode cX7_findRests 79 = .ok (.getfield 68, 3) := by decide +kernel
theorem dX7_findRests_82 : decode cX7_findRests 82 = .ok (.iload_n 3, 1) := by decide +kernel
theorem dX7_findRests_83 : decode cX7_findRests 83 = .ok (.iload 4, 2) := by decide +kernel
theorem dX7_findRests_85 : decode cX7_findRests 85 = .ok (.aload_n 0, 1) := by decide +kernel
theorem dX7_findRests_86 : decode cX7_findRests 86 = .ok (.getfield 51, 3) := by decide +kernel
theorem dX7_findRests_89 : decode cX7_findRests 89 = .ok (.invokevirtual 378, 3) := by decide +kernel
theorem dX7_findRests_92 : decode cX7_findRests 92 = .ok (.iinc 4 1, 3) := by decide +kernel
theorem dX7_findRests_95 : decode cX7_findRests 95 = .ok (.goto (-45), 3) := by decide +kernel
theorem dX7_findRests_98 : decode cX7_findRests 98 = .ok (.iinc 3 1, 3) := by decide +kernel
theorem dX7_findRests_101 : decode cX7_findRests 101 = .ok (.goto (-69), 3) := by decide +kernel
theorem dX7_findRests_104 : decode cX7_findRests 104 = .ok (.aload_n 0, 1) := by decide +kernel
theorem dX7_findRests_105 : decode cX7_findRests 105 = .ok (.getfield 68, 3) := by decide +kernel
theorem dX7_findRests_108 : decode cX7_findRests 108 = .ok (.invokevirtual 381, 3) := by decide +kernel
theorem dX7_findRests_111 : decode cX7_findRests 111 = .ok (.istore_n 3, 1) := by decide +kernel
theorem dX7_findRests_112 : decode cX7_findRests 112 = .ok (.aload_n 0, 1) := by decide +kernel
theorem dX7_findRests_113 : decode cX7_findRests 113 = .ok (.getfield 68, 3) := by decide +kernel
theorem dX7_findRests_116 : decode cX7_findRests 116 = .ok (.iload_n 3, 1) := by decide +kernel
theorem dX7_findRests_117 : decode cX7_findRests 117 = .ok (.bipush 24, 2) := by decide +kernel
theorem dX7_findRests_119 : decode cX7_findRests 119 = .ok (.idiv, 1) := by decide +kernel
theorem dX7_findRests_120 : decode cX7_findRests 120 = .ok (.iload_n 1, 1) := by decide +kernel
theorem dX7_findRests_121 : decode cX7_findRests 121 = .ok (.invokestatic 264, 3) := by decide +kernel
theorem dX7_findRests_124 : decode cX7_findRests 124 = .ok (.putfield 280, 3) := by decide +kernel
theorem dX7_findRests_127 : decode cX7_findRests 127 = .ok (.aload_n 0, 1) := by decide +kernel
theorem dX7_findRests_128 : decode cX7_findRests 128 = .ok (.getfield 68, 3) := by decide +kernel
theorem dX7_findRests_131 : decode cX7_findRests 131 = .ok (.iload_n 3, 1) := by decide +kernel
theorem dX7_findRests_132 : decode cX7_findRests 132 = .ok (.bipush 24, 2) := by decide +kernel
theorem dX7_findRests_134 : decode cX7_findRests 134 = .ok (.irem, 1) := by decide +kernel
theorem dX7_findRests_135 : decode cX7_findRests 135 = .ok (.iload_n 1, 1) := by decide +kernel
theorem dX7_findRests_136 : decode cX7_findRests 136 = .ok (.invokestatic 264, 3) := by decide +kernel
theorem dX7_findRests_139 : decode cX7_findRests 139 = .ok (.putfield 283, 3) := by decide +kernel
theorem dX7_findRests_142 : decode cX7_findRests 142 = .ok (.aload_n 0, 1) := by decide +kernel
theorem dX7_findRests_143 : decode cX7_findRests 143 = .ok (.getfield 68, 3) := by decide +kernel
theorem dX7_findRests_146 : decode cX7_findRests 146 = .ok (.iconst 1, 1) := by decide +kernel
theorem dX7_findRests_147 : decode cX7_findRests 147 = .ok (.putfield 100, 3) := by decide +kernel
theorem dX7_findRests_150 : decode cX7_findRests 150 = .ok (.return_, 1) := by decide +kernel
theorem dX7_chooseCorner_0 : decode cX7_chooseCorner 0 = .ok (.iconst 0, 1) := by decide +kernel
theorem dX7_chooseCorner_1 : decode cX7_chooseCorner 1 = .ok (.iload_n 1, 1) := by decide +kernel
theorem dX7_chooseCorner_2 : decode cX7_chooseCorner 2 = .ok (.iload_n 3, 1) := by decide +kernel
theorem dX7_chooseCorner_3 : decode cX7_chooseCorner 3 = .ok (.isub, 1) := by decide +kernel
theorem dX7_chooseCorner_4 : decode cX7_chooseCorner 4 = .ok (.invokestatic 299, 3) := by decide +kernel
theorem dX7_chooseCorner_7 : decode cX7_chooseCorner 7 = .ok (.istore 4, 2) := by decide +kernel
theorem dX7_chooseCorner_9 : decode cX7_chooseCorner 9 = .ok (.iconst 0, 1) := by decide +kernel
theorem dX7_chooseCorner_10 : decode cX7_chooseCorner 10 = .ok (.iload_n 2, 1) := by decide +kernel
theorem dX7_chooseCorner_11 : decode cX7_chooseCorner 11 = .ok (.iload_n 3, 1) := by decide +kernel
theorem dX7_chooseCorner_12 : decode cX7_chooseCorner 12 = .ok (.isub, 1) := by decide +kernel
theorem dX7_chooseCorner_13 : decode cX7_chooseCorner 13 = .ok (.invokestatic 299, 3) := by decide +kernel
theorem dX7_chooseCorner_16 : decode cX7_chooseCorner 16 = .ok (.istore 5, 2) := by decide +kernel
theorem dX7_chooseCorner_18 : decode cX7_chooseCorner 18 = .ok (.iload_n 1, 1) := by decide +kernel
theorem dX7_chooseCorner_19 : decode cX7_chooseCorner 19 = .ok (.iload 4, 2) := by decide +kernel
theorem dX7_chooseCorner_21 : decode cX7_chooseCorner 21 = .ok (.isub, 1) := by decide +kernel
theorem dX7_chooseCorner_22 : decode cX7_chooseCorner 22 = .ok (.istore 6, 2) := by decide +kernel
theorem dX7_chooseCorner_24 : decode cX7_chooseCorner 24 = .ok (.iload_n 2, 1) := by decide +kernel
theorem dX7_chooseCorner_25 : decode cX7_chooseCorner 25 = .ok (.iload 5, 2) := by decide +kernel
theorem dX7_chooseCorner_27 : decode cX7_chooseCorner 27 = .ok (.isub, 1) := by decide +kernel
theorem dX7_chooseCorner_28 : decode cX7_chooseCorner 28 = .ok (.istore 7, 2) := by decide +kernel
theorem dX7_chooseCorner_30 : decode cX7_chooseCorner 30 = .ok (.iload 6, 2) := by decide +kernel
theorem dX7_chooseCorner_32 : decode cX7_chooseCorner 32 = .ok (.iload 7, 2) := by decide +kernel
theorem dX7_chooseCorner_34 : decode cX7_chooseCorner 34 = .ok (.iadd, 1) := by decide +kernel
theorem dX7_chooseCorner_35 : decode cX7_chooseCorner 35 = .ok (.istore 8, 2) := by decide +kernel
theorem dX7_chooseCorner_37 : decode cX7_chooseCorner 37 = .ok (.iload 8, 2) := by decide +kernel
theorem dX7_chooseCorner_39 : decode cX7_chooseCorner 39 = .ok (.ifCond .ne 40, 3) := by decide +kernel
theorem dX7_chooseCorner_42 : decode cX7_chooseCorner 42 = .ok (.aload_n 0, 1) := by decide +kernel
theorem dX7_chooseCorner_43 : decode cX7_chooseCorner 43 = .ok (.getfield 58, 3) := by decide +kernel
theorem dX7_chooseCorner_46 : decode cX7_chooseCorner 46 = .ok (.iload_n 1, 1) := by decide +kernel
theorem dX7_chooseCorner_47 : decode cX7_chooseCorner 47 = .ok (.iload_n 2, 1) := by decide +kernel
theorem dX7_chooseCorner_48 : decode cX7_chooseCorner 48 = .ok (.invokestatic 299, 3) := by decide +kernel
theorem dX7_chooseCorner_51 : decode cX7_chooseCorner 51 = .ok (.i2l, 1) := by decide +kernel
theorem dX7_chooseCorner_52 : decode cX7_chooseCorner 52 = .ok (.ldc2_w 384, 3) := by decide +kernel
theorem dX7_chooseCorner_55 : decode cX7_chooseCorner 55 = .ok (.invokevirtual 202, 3) := by decide +kernel
theorem dX7_chooseCorner_58 : decode cX7_chooseCorner 58 = .ok (.aload_n 0, 1) := by decide +kernel
theorem dX7_chooseCorner_59 : decode cX7_chooseCorner 59 = .ok (.getfield 62, 3) := by decide +kernel
theorem dX7_chooseCorner_62 : decode cX7_chooseCorner 62 = .ok (.iload_n 1, 1) := by decide +kernel
theorem dX7_chooseCorner_63 : decode cX7_chooseCorner 63 = .ok (.iload_n 2, 1) := by decide +kernel
theorem dX7_chooseCorner_64 : decode cX7_chooseCorner 64 = .ok (.if_icmp .lt 7, 3) := by decide +kernel
theorem dX7_chooseCorner_67 : decode cX7_chooseCorner 67 = .ok (.lconst 1, 1) := by decide +kernel
theorem dX7_chooseCorner_68 : decode cX7_chooseCorner 68 = .ok (.goto 4, 3) := by decide +kernel
theorem dX7_chooseCorner_71 : decode cX7_chooseCorner 71 = .ok (.lconst 0, 1) := by decide +kernel
theorem dX7_chooseCorner_72 : decode cX7_chooseCorner 72 = .ok (.lconst 1, 1) := by decide +kernel
theorem dX7_chooseCorner_73 : decode cX7_chooseCorner 73 = .ok (.invokevirtual 202, 3) := by decide +kernel
theorem dX7_chooseCorner_76 : decode cX7_chooseCorner 76 = .ok (.goto 124, 3) := by decide +kernel
theorem dX7_chooseCorner_79 : decode cX7_chooseCorner 79 = .ok (.iload_n 2, 1) := by decide +kernel
theorem dX7_chooseCorner_80 : decode cX7_chooseCorner 80 = .ok (.iload 8, 2) := by decide +kernel
theorem dX7_chooseCorner_82 : decode cX7_chooseCorner 82 = .ok (.imul, 1) := by decide +kernel
theorem dX7_chooseCorner_83 : decode cX7_chooseCorner 83 = .ok (.iload 7, 2) := by decide +kernel
theorem dX7_chooseCorner_85 : decode cX7_chooseCorner 85 = .ok (.iload_n 2, 1) := by decide +kernel
theorem dX7_chooseCorner_86 : decode cX7_chooseCorner 86 = .ok (.iload 4, 2) := by decide +kernel
theorem dX7_chooseCorner_88 : decode cX7_chooseCorner 88 = .ok (.isub, 1) := by decide +kernel
theorem dX7_chooseCorner_89 : decode cX7_chooseCorner 89 = .ok (.imul, 1) := by decide +kernel
theorem dX7_chooseCorner_90 : decode cX7_chooseCorner 90 = .ok (.isub, 1) := by decide +kernel
theorem dX7_chooseCorner_91 : decode cX7_chooseCorner 91 = .ok (.istore 9, 2) := by decide +kernel
theorem dX7_chooseCorner_93 : decode cX7_chooseCorner 93 = .ok (.iload 4, 2) := by decide +kernel
theorem dX7_chooseCorner_95 : decode cX7_chooseCorner 95 = .ok (.iload 8, 2) := by decide +kernel
theorem dX7_chooseCorner_97 : decode cX7_chooseCorner 97 = .ok (.imul, 1) := by decide +kernel
theorem dX7_chooseCorner_98 : decode cX7_chooseCorner 98 = .ok (.iload 9, 2) := by decide +kernel
theorem dX7_chooseCorner_100 : decode cX7_chooseCorner 100 = .ok (.if_icmp .lt 35, 3) := by decide +kernel
theorem dX7_chooseCorner_103 : decode cX7_chooseCorner 103 = .ok (.iload 4, 2) := by decide +kernel
theorem dX7_chooseCorner_105 : decode cX7_chooseCorner 105 = .ok (.iload 5, 2) := by decide +kernel
theorem dX7_chooseCorner_107 : decode cX7_chooseCorner 107 = .ok (.if_icmp .lt 28, 3) := by decide +kernel
theorem dX7_chooseCorner_110 : decode cX7_chooseCorner 110 = .ok (.aload_n 0, 1) := by decide +kernel
theorem dX7_chooseCorner_111 : decode cX7_chooseCorner 111 = .ok (.getfield 58, 3) := by decide +kernel
theorem dX7_chooseCorner_114 : decode cX7_chooseCorner 114 = .ok (.iload 4, 2) := by decide +kernel
theorem dX7_chooseCorner_116 : decode cX7_chooseCorner 116 = .ok (.i2l, 1) := by decide +kernel
theorem dX7_chooseCorner_117 : decode cX7_chooseCorner 117 = .ok (.ldc2_w 384, 3) := by decide +kernel
theorem dX7_chooseCorner_120 : decode cX7_chooseCorner 120 = .ok (.invokevirtual 202, 3) := by decide +kernel
theorem dX7_chooseCorner_123 : decode cX7_chooseCorner 123 = .ok (.aload_n 0, 1) := by decide +kernel
theorem dX7_chooseCorner_124 : decode cX7_chooseCorner 124 = .ok (.getfield 62, 3) := by decide +kernel
theorem dX7_chooseCorner_127 : decode cX7_chooseCorner 127 = .ok (.lconst 1, 1) := by decide +kernel
theorem dX7_chooseCorner_128 : decode cX7_chooseCorner 128 = .ok (.lconst 1, 1) := by decide +kernel
theorem dX7_chooseCorner_129 : decode cX7_chooseCorner 129 = .ok (.invokevirtual 202, 3) := by decide +kernel
theorem dX7_chooseCorner_132 : decode cX7_chooseCorner 132 = .ok (.goto 68, 3) := by decide +kernel
theorem dX7_chooseCorner_135 : decode cX7_chooseCorner 135 = .ok (.iload 9, 2) := by decide +kernel
theorem dX7_chooseCorner_137 : decode cX7_chooseCorner 137 = .ok (.iload 5, 2) := by decide +kernel
theorem dX7_chooseCorner_139 : decode cX7_chooseCorner 139 = .ok (.iload 8, 2) := by decide +kernel
theorem dX7_chooseCorner_141 : decode cX7_chooseCorner 141 = .ok (.imul, 1) := by decide +kernel
theorem dX7_chooseCorner_142 : decode cX7_chooseCorner 142 = .ok (.if_icmp .lt 36, 3) := by decide +kernel
theorem dX7_chooseCorner_145 : decode cX7_chooseCorner 145 = .ok (.aload_n 0, 1) := by decide +kernel
theorem dX7_chooseCorner_146 : decode cX7_chooseCorner 146 = .ok (.getfield 58, 3) := by decide +kernel
theorem dX7_chooseCorner_149 : decode cX7_chooseCorner 149 = .ok (.iload 9, 2) := by decide +kernel
theorem dX7_chooseCorner_151 : decode cX7_chooseCorner 151 = .ok (.i2l, 1) := by decide +kernel
theorem dX7_chooseCorner_152 : decode cX7_chooseCorner 152 = .ok (.ldc2_w 384, 3) := by decide +kernel
theorem dX7_chooseCorner_155 : decode cX7_chooseCorner 155 = .ok (.iload 8, 2) := by decide +kernel
theorem dX7_chooseCorner_157 : decode cX7_chooseCorner 157 = .ok (.i2l, 1) := by decide +kernel
theorem dX7_chooseCorner_158 : decode cX7_chooseCorner 158 = .ok (.lmul, 1) := by decide +kernel
theorem dX7_chooseCorner_159 : decode cX7_chooseCorner 159 = .ok (.invokevirtual 202, 3) := by decide +kernel
theorem dX7_chooseCorner_162 : decode cX7_chooseCorner 162 = .ok (.aload_n 0, 1) := by decide +kernel
theorem dX7_chooseCorner_163 : decode cX7_chooseCorner 163 = .ok (.getfield 62, 3) := by decide +kernel
theorem dX7_chooseCorner_166 : decode cX7_chooseCorner 166 = .ok (.iload 7, 2) := by decide +kernel
theorem dX7_chooseCorner_168 : decode cX7_chooseCorner 168 = .ok (.i2l, 1) := by decide +kernel
theorem dX7_chooseCorner_169 : decode cX7_chooseCorner 169 = .ok (.iload 8, 2) := by decide +kernel
theorem dX7_chooseCorner_171 : decode cX7_chooseCorner 171 = .ok (.i2l, 1) := by decide +kernel
theorem dX7_chooseCorner_172 : decode cX7_chooseCorner 172 = .ok (.invokevirtual 202, 3) := by decide +kernel
theorem dX7_chooseCorner_175 : decode cX7_chooseCorner 175 = .ok (.goto 25, 3) := by decide +kernel
theorem dX7_chooseCorner_178 : decode cX7_chooseCorner 178 = .ok (.aload_n 0, 1) := by decide +kernel
theorem dX7_chooseCorner_179 : decode cX7_chooseCorner 179 = .ok (.getfield 58, 3) := by decide +kernel
theorem dX7_chooseCorner_182 : decode cX7_chooseCorner 182 = .ok (.iload 5, 2) := by decide +kernel
theorem dX7_chooseCorner_184 : decode cX7_chooseCorner 184 = .ok (.i2l, 1) := by decide +kernel
theorem dX7_chooseCorner_185 : decode cX7_chooseCorner 185 = .ok (.ldc2_w 384, 3) := by decide +kernel
theorem dX7_chooseCorner_188 : decode cX7_chooseCorner 188 = .ok (.invokevirtual 202, 3) := by decide +kernel
theorem dX7_chooseCorner_191 : decode cX7_chooseCorner 191 = .ok (.aload_n 0, 1) := by decide +kernel
theorem dX7_chooseCorner_192 : decode cX7_chooseCorner 192 = .ok (.getfield 62, 3) := by decide +kernel
theorem dX7_chooseCorner_195 : decode cX7_chooseCorner 195 = .ok (.lconst 0, 1) := by decide +kernel
theorem dX7_chooseCorner_196 : decode cX7_chooseCorner 196 = .ok (.lconst 1, 1) := by decide +kernel
theorem dX7_chooseCorner_197 : decode cX7_chooseCorner 197 = .ok (.invokevirtual 202, 3) := by decide +kernel
theorem dX7_chooseCorner_200 : decode cX7_chooseCorner 200 = .ok (.aload_n 0, 1) := by decide +kernel
theorem dX7_chooseCorner_201 : decode cX7_chooseCorner 201 = .ok (.getfield 58, 3) := by decide +kernel
theorem dX7_chooseCorner_204 : decode cX7_chooseCorner 204 = .ok (.invokevirtual 208, 3) := by decide +kernel
theorem dX7_chooseCorner_207 : decode cX7_chooseCorner 207 = .ok (.aload_n 0, 1) := by decide +kernel
theorem dX7_chooseCorner_208 : decode cX7_chooseCorner 208 = .ok (.getfield 62, 3) := by decide +kernel
theorem dX7_chooseCorner_211 : decode cX7_chooseCorner 211 = .ok (.invokevirtual 208, 3) := by decide +kernel
theorem dX7_chooseCorner_214 : decode cX7_chooseCorner 214 = .ok (.return_, 1) := by decide +kernel
theorem dX8_init_0 : decode cX8_init 0 = .ok (.aload_n 0, 1) := by decide +kernel
theorem dX8_init_1 : decode cX8_init 1 = .ok (.invokespecial 3, 3) := by decide +kernel
theorem dX8_init_4 : decode cX8_init 4 = .ok (.aload_n 0, 1) := by decide +kernel
theorem dX8_init_5 : decode cX8_init 5 = .ok (.bipush 78, 2) := by decide +kernel
theorem dX8_init_7 : decode cX8_init 7 = .ok (.newarray .int, 2) := by decide +kernel
theorem dX8_init_9 : decode cX8_init 9 = .ok (.putfield 9, 3) := by decide +kernel
theorem dX8_init_12 : decode cX8_init 12 = .ok (.aload_n 0, 1) := by decide +kernel
theorem dX8_init_13 : decode cX8_init 13 = .ok (.sipush 1560, 3) := by decide +kernel
theorem dX8_init_16 : decode cX8_init 16 = .ok (.newarray .int, 2) := by decide +kernel
theorem dX8_init_18 : decode cX8_init 18 = .ok (.putfield 15, 3) := by decide +kernel
theorem dX8_init_21 : decode cX8_init 21 = .ok (.aload_n 0, 1) := by decide +kernel
theorem dX8_init_22 : decode cX8_init 22 = .ok (.sipush 156, 3) := by decide +kernel
theorem dX8_init_25 : decode cX8_init 25 = .ok (.newarray .int, 2) := by decide +kernel
theorem dX8_init_27 : decode cX8_init 27 = .ok (.putfield 18, 3) := by decide +kernel
theorem dX8_init_30 : decode cX8_init 30 = .ok (.aload_n 0, 1) := by decide +kernel
theorem dX8_init_31 : decode cX8_init 31 = .ok (.iconst 2, 1) := by decide +kernel
theorem dX8_init_32 : decode cX8_init 32 = .ok (.newarray .boolean, 2) := by decide +kernel
theorem dX8_init_34 : decode cX8_init 34 = .ok (.putfield 21, 3) := by decide +kernel
theorem dX8_init_37 : decode cX8_init 37 = .ok (.aload_n 0, 1) := by decide +kernel
theorem dX8_init_38 : decode cX8_init 38 = .ok (.sipush 200, 3) := by decide +kernel
theorem dX8_init_41 : decode cX8_init 41 = .ok (.newarray .byte, 2) := by decide +kernel
theorem dX8_init_43 : decode cX8_init 43 = .ok (.putfield 25, 3) := by decide +kernel
theorem dX8_init_46 : decode cX8_init 46 = .ok (.aload_n 0, 1) := by decide +kernel
theorem dX8_init_47 : decode cX8_init 47 = .ok (.bipush 78, 2) := by decide +kernel
theorem dX8_init_49 : decode cX8_init 49 = .ok (.newarray .int, 2) := by decide +kernel
theorem dX8_init_51 : decode cX8_init 51 = .ok (.putfield 29, 3) := by decide +kernel
theorem dX8_init_54 : decode cX8_init 54 = .ok (.aload_n 0, 1) := by decide +kernel
theorem dX8_init_55 : decode cX8_init 55 = .ok (.iconst 2, 1) := by decide +kernel
theorem dX8_init_56 : decode cX8_init 56 = .ok (.newarray .int, 2) := by decide +kernel
theorem dX8_init_58 : decode cX8_init 58 = .ok (.putfield 32, 3) := by decide +kernel
theorem dX8_init_61 : decode cX8_init 61 = .ok (.aload_n 0, 1) := by decide +kernel
theorem dX8_init_62 : decode cX8_init 62 = .ok (.bipush 10, 2) := by decide +kernel
theorem dX8_init_64 : decode cX8_init 64 = .ok (.newarray .int, 2) := by decide +kernel
theorem dX8_init_66 : decode cX8_init 66 = .ok (.putfield 35, 3) := by decide +kernel
theorem dX8_init_69 : decode cX8_init 69 = .ok (.aload_n 0, 1) := by decide +kernel
theorem dX8_init_70 : decode cX8_init 70 = .ok (.iconst 2, 1) := by decide +kernel
theorem dX8_init_71 : decode cX8_init 71 = .ok (.newarray .int, 2) := by decide +kernel
theorem dX8_init_73 : decode cX8_init 73 = .ok (.putfield 38, 3) := by decide +kernel
theorem dX8_init_76 : decode cX8_init 76 = .ok (.aload_n 0, 1) := by decide +kernel
theorem dX8_init_77 : decode cX8_init 77 = .ok (.iconst 2, 1) := by decide +kernel
theorem dX8_init_78 : decode cX8_init 78 = .ok (.newarray .int, 2) := by decide +kernel
theorem dX8_init_80 : decode cX8_init 80 = .ok (.putfield 41, 3) := by decide +kernel
theorem dX8_init_83 : decode cX8_init 83 = .ok (.aload_n 0, 1) := by decide +kernel
theorem dX8_init_84 : decode cX8_init 84 = .ok (.bipush 10, 2) := by decide +kernel
theorem dX8_init_86 : decode cX8_init 86 = .ok (.newarray .long, 2) := by decide +kernel
theorem dX8_init_88 : decode cX8_init 88 = .ok (.putfield 44, 3) := by decide +kernel
theorem dX8_init_91 : decode cX8_init 91 = .ok (.aload_n 0, 1) := by decide +kernel
theorem dX8_init_92 : decode cX8_init 92 = .ok (.iconst 2, 1) := by decide +kernel
theorem dX8_init_93 : decode cX8_init 93 = .ok (.newarray .long, 2) := by decide +kernel
theorem dX8_init_95 : decode cX8_init 95 = .ok (.putfield 48, 3) := by decide +kernel
theorem dX8_init_98 : decode cX8_init 98 = .ok (.aload_n 0, 1) := by decide +kernel
theorem dX8_init_99 : decode cX8_init 99 = .ok (.bipush 11, 2) := by decide +kernel
theorem dX8_init_101 : decode cX8_init 101 = .ok (.newarray .long, 2) := by decide +kernel
theorem dX8_init_103 : decode cX8_init 103 = .ok (.putfield 51, 3) := by decide +kernel
theorem dX8_init_106 : decode cX8_init 106 = .ok (.aload_n 0, 1) := by decide +kernel
theorem dX8_init_107 : decode cX8_init 107 = .ok (.bipush 36, 2) := by decide +kernel
theorem dX8_init_109 : decode cX8_init 109 = .ok (.newarray .long, 2) := by decide +kernel
theorem dX8_init_111 : decode cX8_init 111 = .ok (.putfield 54, 3) := by decide +kernel
theorem dX8_init_114 : decode cX8_init 114 = .ok (.aload_n 0, 1) := by decide +kernel
theorem dX8_init_115 : decode cX8_init 115 = .ok (.bipush 6, 2) := by decide +kernel
theorem dX8_init_117 : decode cX8_init 117 = .ok (.newarray .int, 2) := by decide +kernel
theorem dX8_init_119 : decode cX8_init 119 = .ok (.putfield 57, 3) := by decide +kernel
theorem dX8_init_122 : decode cX8_init 122 = .ok (.aload_n 0, 1) := by decide +kernel
theorem dX8_init_123 : decode cX8_init 123 = .ok (.iconst 4, 1) := by decide +kernel
theorem dX8_init_124 : decode cX8_init 124 = .ok (.newarray .int, 2) := by decide +kernel
theorem dX8_init_126 : decode cX8_init 126 = .ok (.putfield 60, 3) := by decide +kernel
theorem dX8_init_129 : decode cX8_init 129 = .ok (.aload_n 0, 1) := by decide +kernel
theorem dX8_init_130 : decode cX8_init 130 = .ok (.iconst 5, 1) := by decide +kernel
theorem dX8_init_131 : decode cX8_init 131 = .ok (.newarray .int, 2) := by decide +kernel
theorem dX8_init_133 : decode cX8_init 133 = .ok (.putfield 63, 3) := by decide +kernel
theorem dX8_init_136 : decode cX8_init 136 = .ok (.aload_n 0, 1) := by decide +kernel
theorem dX8_init_137 : decode cX8_init 137 = .ok (.sipush 1152, 3) := by decide +kernel
theorem dX8_init_140 : decode cX8_init 140 = .ok (.newarray .long, 2) := by decide +kernel
theorem dX8_init_142 : decode cX8_init 142 = .ok (.putfield 66, 3) := by decide +kernel
theorem dX8_init_145 : decode cX8_init 145 = .ok (.aload_n 0, 1) := by decide +kernel
theorem dX8_init_146 : decode cX8_init 146 = .ok (.sipush 576, 3) := by decide +kernel
theorem dX8_init_149 : decode cX8_init 149 = .ok (.newarray .long, 2) := by decide +kernel
theorem dX8_init_151 : decode cX8_init 151 = .ok (.putfield 69, 3) := by decide +kernel
theorem dX8_init_154 : decode cX8_init 154 = .ok (.aload_n 0, 1) := by decide +kernel
theorem dX8_init_155 : decode cX8_init 155 = .ok (.bipush 24, 2) := by decide +kernel
theorem dX8_init_157 : decode cX8_init 157 = .ok (.newarray .int, 2) := by decide +kernel
theorem dX8_init_159 : decode cX8_init 159 = .ok (.putfield 72, 3) := by decide +kernel
theorem dX8_init_162 : decode cX8_init 162 = .ok (.return_, 1) := by decide +kernel
theorem dX8_thrown_0 : decode cX8_thrown 0 = .ok (.aload_n 0, 1) := by decide +kernel
theorem dX8_thrown_1 : decode cX8_thrown 1 = .ok (.getfield 75, 3) := by decide +kernel
theorem dX8_thrown_4 : decode cX8_thrown 4 = .ok (.ireturn, 1) := by decide +kernel
theorem dX8_in_0 : decode cX8_in 0 = .ok (.lload_n 0, 1) := by decide +kernel
theorem dX8_in_1 : decode cX8_in 1 = .ok (.lload_n 2, 1) := by decide +kernel
theorem dX8_in_2 : decode cX8_in 2 = .ok (.lcmp, 1) := by decide +kernel
theorem dX8_in_3 : decode cX8_in 3 = .ok (.ifCond .lt 14, 3) := by decide +kernel
theorem dX8_in_6 : decode cX8_in 6 = .ok (.lload_n 0, 1) := by decide +kernel
theorem dX8_in_7 : decode cX8_in 7 = .ok (.lload 4, 2) := by decide +kernel
theorem dX8_in_9 : decode cX8_in 9 = .ok (.lcmp, 1) := by decide +kernel
theorem dX8_in_10 : decode cX8_in 10 = .ok (.ifCond .gt 7, 3) := by decide +kernel
theorem dX8_in_13 : decode cX8_in 13 = .ok (.iconst 1, 1) := by decide +kernel
theorem dX8_in_14 : decode cX8_in 14 = .ok (.goto 4, 3) := by decide +kernel
theorem dX8_in_17 : decode cX8_in 17 = .ok (.iconst 0, 1) := by decide +kernel
theorem dX8_in_18 : decode cX8_in 18 = .ok (.ireturn, 1) := by decide +kernel
theorem dX8_n_0 : decode cX8_n 0 = .ok (.aload_n 0, 1) := by decide +kernel
theorem dX8_n_1 : decode cX8_n 1 = .ok (.getfield 9, 3) := by decide +kernel
theorem dX8_n_4 : decode cX8_n 4 = .ok (.iconst 0, 1) := by decide +kernel
theorem dX8_n_5 : decode cX8_n 5 = .ok (.iaload, 1) := by decide +kernel
theorem dX8_n_6 : decode cX8_n 6 = .ok (.ireturn, 1) := by decide +kernel
theorem dX8_isTold_0 : decode cX8_isTold 0 = .ok (.aload_n 0, 1) := by decide +kernel
theorem dX8_isTold_1 : decode cX8_isTold 1 = .ok (.getfield 9, 3) := by decide +kernel
theorem dX8_isTold_4 : decode cX8_isTold 4 = .ok (.iconst 0, 1) := by decide +kernel
theorem dX8_isTold_5 : decode cX8_isTold 5 = .ok (.iaload, 1) := by decide +kernel
theorem dX8_isTold_6 : decode cX8_isTold 6 = .ok (.ifCond .le 7, 3) := by decide +kernel
theorem dX8_isTold_9 : decode cX8_isTold 9 = .ok (.iconst 1, 1) := by decide +kernel
theorem dX8_isTold_10 : decode cX8_isTold 10 = .ok (.goto 4, 3) := by decide +kernel
theorem dX8_isTold_13 : decode cX8_isTold 13 = .ok (.iconst 0, 1) := by decide +kernel
theorem dX8_isTold_14 : decode cX8_isTold 14 = .ok (.ireturn, 1) := by decide +kernel
theorem dX8_isSide_0 : decode cX8_isSide 0 = .ok (.iload_n 0, 1) := by decide +kernel
theorem dX8_isSide_1 : decode cX8_isSide 1 = .ok (.i2l, 1) := by decide +kernel
theorem dX8_isSide_2 : decode cX8_isSide 2 = .ok (.lconst 0, 1) := by decide +kernel
theorem dX8_isSide_3 : decode cX8_isSide 3 = .ok (.lconst 1, 1) := by decide +kernel
theorem dX8_isSide_4 : decode cX8_isSide 4 = .ok (.invokestatic 79, 3) := by decide +kernel
theorem dX8_isSide_7 : decode cX8_isSide 7 = .ok (.ireturn, 1) := by decide +kernel
theorem dX8_isThere_0 : decode cX8_isThere 0 = .ok (.aload_n 0, 1) := by decide +kernel
theorem dX8_isThere_1 : decode cX8_isThere 1 = .ok (.invokevirtual 83, 3) := by decide +kernel
theorem dX8_isThere_4 : decode cX8_isThere 4 = .ok (.ifCond .eq 14, 3) := by decide +kernel
theorem dX8_isThere_7 : decode cX8_isThere 7 = .ok (.iload_n 1, 1) := by decide +kernel
theorem dX8_isThere_8 : decode cX8_isThere 8 = .ok (.invokestatic 87, 3) := by decide +kernel
theorem dX8_isThere_11 : decode cX8_isThere 11 = .ok (.ifCond .eq 7, 3) := by decide +kernel
theorem dX8_isThere_14 : decode cX8_isThere 14 = .ok (.iconst 1, 1) := by decide +kernel
theorem dX8_isThere_15 : decode cX8_isThere 15 = .ok (.goto 4, 3) := by decide +kernel
theorem dX8_isThere_18 : decode cX8_isThere 18 = .ok (.iconst 0, 1) := by decide +kernel
theorem dX8_isThere_19 : decode cX8_isThere 19 = .ok (.ireturn, 1) := by decide +kernel
theorem dX8_remember_0 : decode cX8_remember 0 = .ok (.aload_n 0, 1) := by decide +kernel
theorem dX8_remember_1 : decode cX8_remember 1 = .ok (.getfield 91, 3) := by decide +kernel
theorem dX8_remember_4 : decode cX8_remember 4 = .ok (.bipush 20, 2) := by decide +kernel
theorem dX8_remember_6 : decode cX8_remember 6 = .ok (.if_icmp .ne 47, 3) := by decide +kernel
theorem dX8_remember_9 : decode cX8_remember 9 = .ok (.aload_n 0, 1) := by decide +kernel
theorem dX8_remember_10 : decode cX8_remember 10 = .ok (.dup, 1) := by decide +kernel
theorem dX8_remember_11 : decode cX8_remember 11 = .ok (.getfield 91, 3) := by decide +kernel
theorem dX8_remember_14 : decode cX8_remember 14 = .ok (.iconst 1, 1) := by decide +kernel
theorem dX8_remember_15 : decode cX8_remember 15 = .ok (.isub, 1) := by decide +kernel
theorem dX8_remember_16 : decode cX8_remember 16 = .ok (.putfield 91, 3) := by decide +kernel
theorem dX8_remember_19 : decode cX8_remember 19 = .ok (.iconst 0, 1) := by decide +kernel
theorem dX8_remember_20 : decode cX8_remember 20 = .ok (.istore_n 1, 1) := by decide +kernel
theorem dX8_remember_21 : decode cX8_remember 21 = .ok (.iload_n 1, 1) := by decide +kernel
theorem dX8_remember_22 : decode cX8_remember 22 = .ok (.bipush 78, 2) := by decide +kernel
theorem dX8_remember_24 : decode cX8_remember 24 = .ok (.aload_n 0, 1) := by decide +kernel
theorem dX8_remember_25 : decode cX8_remember 25 = .ok (.getfield 91, 3) := by decide +kernel
theorem dX8_remember_28 : decode cX8_remember 28 = .ok (.imul, 1) := by decide +kernel
theorem dX8_remember_29 : decode cX8_remember 29 = .ok (.if_icmp .ge 24, 3) := by decide +kernel
theorem dX8_remember_32 : decode cX8_remember 32 = .ok (.aload_n 0, 1) := by decide +kernel
theorem dX8_remember_33 : decode cX8_remember 33 = .ok (.getfield 15, 3) := by decide +kernel
theorem dX8_remember_36 : decode cX8_remember 36 = .ok (.iload_n 1, 1) := by decide +kernel
theorem dX8_remember_37 : decode cX8_remember 37 = .ok (.aload_n 0, 1) := by decide +kernel
theorem dX8_remember_38 : decode cX8_remember 38 = .ok (.getfield 15, 3) := by decide +kernel
theorem dX8_remember_41 : decode cX8_remember 41 = .ok (.iload_n 1, 1) := by decide +kernel
theorem dX8_remember_42 : decode cX8_remember 42 = .ok (.bipush 78, 2) := by decide +kernel
theorem dX8_remember_44 : decode cX8_remember 44 = .ok (.iadd, 1) := by decide +kernel
theorem dX8_remember_45 : decode cX8_remember 45 = .ok (.iaload, 1) := by decide +kernel
theorem dX8_remember_46 : decode cX8_remember 46 = .ok (.iastore, 1) := by decide +kernel
theorem dX8_remember_47 : decode cX8_remember 47 = .ok (.iinc 1 1, 3) := by decide +kernel
theorem dX8_remember_50 : decode cX8_remember 50 = .ok (.goto (-29), 3) := by decide +kernel
theorem dX8_remember_53 : decode cX8_remember 53 = .ok (.iconst 0, 1) := by decide +kernel
theorem dX8_remember_54 : decode cX8_remember 54 = .ok (.istore_n 1, 1) := by decide +kernel
theorem dX8_remember_55 : decode cX8_remember 55 = .ok (.iload_n 1, 1) := by decide +kernel
theorem dX8_remember_56 : decode cX8_remember 56 = .ok (.bipush 78, 2) := by decide +kernel
theorem dX8_remember_58 : decode cX8_remember 58 = .ok (.if_icmp .ge 29, 3) := by decide +kernel
theorem dX8_remember_61 : decode cX8_remember 61 = .ok (.aload_n 0, 1) := by decide +kernel
theorem dX8_remember_62 : decode cX8_remember 62 = .ok (.getfield 15, 3) := by decide +kernel
theorem dX8_remember_65 : decode cX8_remember 65 = .ok (.bipush 78, 2) := by decide +kernel
theorem dX8_remember_67 : decode cX8_remember 67 = .ok (.aload_n 0, 1) := by decide +kernel
theorem dX8_remember_68 : decode cX8_remember 68 = .ok (.getfield 91, 3) := by decide +kernel
theorem dX8_remember_71 : decode cX8_remember 71 = .ok (.imul, 1) := by decide +kernel
theorem dX8_remember_72 : decode cX8_remember 72 = .ok (.iload_n 1, 1) := by decide +kernel
theorem dX8_remember_73 : decode cX8_remember 73 = .ok (.iadd, 1) := by decide +kernel
theorem dX8_remember_74 : decode cX8_remember 74 = .ok (.aload_n 0, 1) := by decide +kernel
theorem dX8_remember_75 : decode cX8_remember 75 = .ok (.getfield 9, 3) := by decide +kernel
theorem dX8_remember_78 : decode cX8_remember 78 = .ok (.iload_n 1, 1) := by decide +kernel
theorem dX8_remember_79 : decode cX8_remember 79 = .ok (.iaload, 1) := by decide +kernel
theorem dX8_remember_80 : decode cX8_remember 80 = .ok (.iastore, 1) := by decide +kernel
theorem dX8_remember_81 : decode cX8_remember 81 = .ok (.iinc 1 1, 3) := by decide +kernel
theorem dX8_remember_84 : decode cX8_remember 84 = .ok (.goto (-29), 3) := by decide +kernel
theorem dX8_remember_87 : decode cX8_remember 87 = .ok (.aload_n 0, 1) := by decide +kernel
theorem dX8_remember_88 : decode cX8_remember 88 = .ok (.dup, 1) := by decide +kernel
theorem dX8_remember_89 : decode cX8_remember 89 = .ok (.getfield 91, 3) := by decide +kernel
theorem dX8_remember_92 : decode cX8_remember 92 = .ok (.iconst 1, 1) := by decide +kernel
theorem dX8_remember_93 : decode cX8_remember 93 = .ok (.iadd, 1) := by decide +kernel
theorem dX8_remember_94 : decode cX8_remember 94 = .ok (.putfield 91, 3) := by decide +kernel
theorem dX8_remember_97 : decode cX8_remember 97 = .ok (.return_, 1) := by decide +kernel
theorem dX8_sign_0 : decode cX8_sign 0 = .ok (.aload_n 0, 1) := by decide +kernel
theorem dX8_sign_1 : decode cX8_sign 1 = .ok (.iconst 0, 1) := by decide +kernel
theorem dX8_sign_2 : decode cX8_sign 2 = .ok (.putfield 75, 3) := by decide +kernel
theorem dX8_sign_5 : decode cX8_sign 5 = .ok (.aload_n 0, 1) := by decide +kernel
theorem dX8_sign_6 : decode cX8_sign 6 = .ok (.getfield 94, 3) := by decide +kernel
theorem dX8_sign_9 : decode cX8_sign 9 = .ok (.iconst 4, 1) := by decide +kernel
theorem dX8_sign_10 : decode cX8_sign 10 = .ok (.iadd, 1) := by decide +kernel
theorem dX8_sign_11 : decode cX8_sign 11 = .ok (.sipush 200, 3) := by decide +kernel
theorem dX8_sign_14 : decode cX8_sign 14 = .ok (.if_icmp .le 5, 3) := by decide +kernel
theorem dX8_sign_17 : decode cX8_sign 17 = .ok (.iconst (-1), 1) := by decide +kernel
theorem dX8_sign_18 : decode cX8_sign 18 = .ok (.ireturn, 1) := by decide +kernel
theorem dX8_sign_19 : decode cX8_sign 19 = .ok (.bipush 24, 2) := by decide +kernel
theorem dX8_sign_21 : decode cX8_sign 21 = .ok (.istore_n 2, 1) := by decide +kernel
theorem dX8_sign_22 : decode cX8_sign 22 = .ok (.iload_n 2, 1) := by decide +kernel
theorem dX8_sign_23 : decode cX8_sign 23 = .ok (.ifCond .lt 32, 3) := by decide +kernel
theorem dX8_sign_26 : decode cX8_sign 26 = .ok (.aload_n 0, 1) := by decide +kernel
theorem dX8_sign_27 : decode cX8_sign 27 = .ok (.getfield 25, 3) := by decide +kernel
theorem dX8_sign_30 : decode cX8_sign 30 = .ok (.aload_n 0, 1) := by decide +kernel
theorem dX8_sign_31 : decode cX8_sign 31 = .ok (.getfield 94, 3) := by decide +kernel
theorem dX8_sign_34 : decode cX8_sign 34 = .ok (.iload_n 1, 1) := by decide +kernel
theorem dX8_sign_35 : decode cX8_sign 35 = .ok (.iload_n 2, 1) := by decide +kernel
theorem dX8_sign_36 : decode cX8_sign 36 = .ok (.iushr, 1) := by decide +kernel
theorem dX8_sign_37 : decode cX8_sign 37 = .ok (.i2b, 1) := by decide +kernel
theorem dX8_sign_38 : decode cX8_sign 38 = .ok (.bastore, 1) := by decide +kernel
theorem dX8_sign_39 : decode cX8_sign 39 = .ok (.aload_n 0, 1) := by decide +kernel
theorem dX8_sign_40 : decode cX8_sign 40 = .ok (.dup, 1) := by decide +kernel
theorem dX8_sign_41 : decode cX8_sign 41 = .ok (.getfield 94, 3) := by decide +kernel
theorem dX8_sign_44 : decode cX8_sign 44 = .ok (.iconst 1, 1) := by decide +kernel
theorem dX8_sign_45 : decode cX8_sign 45 = .ok (.iadd, 1) := by decide +kernel
theorem dX8_sign_46 : decode cX8_sign 46 = .ok (.putfield 94, 3) := by decide +kernel
theorem dX8_sign_49 : decode cX8_sign 49 = .ok (.iinc 2 (-8), 3) := by decide +kernel
theorem dX8_sign_52 : decode cX8_sign 52 = .ok (.goto (-30), 3) := by decide +kernel
theorem dX8_sign_55 : decode cX8_sign 55 = .ok (.aload_n 0, 1) := by decide +kernel
theorem dX8_sign_56 : decode cX8_sign 56 = .ok (.getfield 94, 3) := by decide +kernel
theorem dX8_sign_59 : decode cX8_sign 59 = .ok (.ireturn, 1) := by decide +kernel
theorem dX8_end_0 : decode cX8_end 0 = .ok (.aload_n 0, 1) := by decide +kernel
theorem dX8_end_1 : decode cX8_end 1 = .ok (.iconst 0, 1) := by decide +kernel
theorem dX8_end_2 : decode cX8_end 2 = .ok (.putfield 75, 3) := by decide +kernel
theorem dX8_end_5 : decode cX8_end 5 = .ok (.iload_n 1, 1) := by decide +kernel
theorem dX8_end_6 : decode cX8_end 6 = .ok (.i2l, 1) := by decide +kernel
theorem dX8_end_7 : decode cX8_end 7 = .ok (.lconst 0, 1) := by decide +kernel
theorem dX8_end_8 : decode cX8_end 8 = .ok (.aload_n 0, 1) := by decide +kernel
theorem dX8_end_9 : decode cX8_end 9 = .ok (.getfield 94, 3) := by decide +kernel
theorem dX8_end_12 : decode cX8_end 12 = .ok (.i2l, 1) := by decide +kernel
theorem dX8_end_13 : decode cX8_end 13 = .ok (.invokestatic 79, 3) := by decide +kernel
theorem dX8_end_16 : decode cX8_end 16 = .ok (.ifCond .ne 5, 3) := by decide +kernel
theorem dX8_end_19 : decode cX8_end 19 = .ok (.iconst 0, 1) := by decide +kernel
theorem dX8_end_20 : decode cX8_end 20 = .ok (.ireturn, 1) := by decide +kernel
theorem dX8_end_21 : decode cX8_end 21 = .ok (.aload_n 0, 1) := by decide +kernel
theorem dX8_end_22 : decode cX8_end 22 = .ok (.iload_n 1, 1) := by decide +kernel
theorem dX8_end_23 : decode cX8_end 23 = .ok (.putfield 94, 3) := by decide +kernel
theorem dX8_end_26 : decode cX8_end 26 = .ok (.iconst 1, 1) := by decide +kernel
theorem dX8_end_27 : decode cX8_end 27 = .ok (.ireturn, 1) := by decide +kernel
theorem dX8_wrong_0 : decode cX8_wrong 0 = .ok (.aload_n 0, 1) := by decide +kernel
theorem dX8_wrong_1 : decode cX8_wrong 1 = .ok (.aload_n 0, 1) := by decide +kernel
theorem dX8_wrong_2 : decode cX8_wrong 2 = .ok (.getfield 97, 3) := by decide +kernel
theorem dX8_wrong_5 : decode cX8_wrong 5 = .ok (.ifCond .eq 7, 3) := by decide +kernel
theorem dX8_wrong_8 : decode cX8_wrong 8 = .ok (.iload_n 1, 1) := by decide +kernel
theorem dX8_wrong_9 : decode cX8_wrong 9 = .ok (.goto 7, 3) := by decide +kernel
theorem dX8_wrong_12 : decode cX8_wrong 12 = .ok (.aload_n 0, 1) := by decide +kernel
theorem dX8_wrong_13 : decode cX8_wrong 13 = .ok (.getfield 101, 3) := by decide +kernel
theorem dX8_wrong_16 : decode cX8_wrong 16 = .ok (.putfield 101, 3) := by decide +kernel
theorem dX8_wrong_19 : decode cX8_wrong 19 = .ok (.aload_n 0, 1) := by decide +kernel
theorem dX8_wrong_20 : decode cX8_wrong 20 = .ok (.iconst 0, 1) := by decide +kernel
theorem dX8_wrong_21 : decode cX8_wrong 21 = .ok (.putfield 97, 3) := by decide +kernel
theorem dX8_wrong_24 : decode cX8_wrong 24 = .ok (.return_, 1) := by decide +kernel
theorem dX8_next_0 : decode cX8_next 0 = .ok (.aload_n 0, 1) := by decide +kernel
theorem dX8_next_1 : decode cX8_next 1 = .ok (.getfield 104, 3) := by decide +kernel
theorem dX8_next_4 : decode cX8_next 4 = .ok (.aload_n 0, 1) := by decide +kernel
theorem dX8_next_5 : decode cX8_next 5 = .ok (.getfield 94, 3) := by decide +kernel
theorem dX8_next_8 : decode cX8_next 8 = .ok (.if_icmp .ge 30, 3) := by decide +kernel
theorem dX8_next_11 : decode cX8_next 11 = .ok (.aload_n 0, 1) := by decide +kernel
theorem dX8_next_12 : decode cX8_next 12 = .ok (.getfield 25, 3) := by decide +kernel
theorem dX8_next_15 : decode cX8_next 15 = .ok (.aload_n 0, 1) := by decide +kernel
theorem dX8_next_16 : decode cX8_next 16 = .ok (.getfield 104, 3) := by decide +kernel
theorem dX8_next_19 : decode cX8_next 19 = .ok (.baload, 1) := by decide +kernel
theorem dX8_next_20 : decode cX8_next 20 = .ok (.bipush 32, 2) := by decide +kernel
theorem dX8_next_22 : decode cX8_next 22 = .ok (.if_icmp .ne 16, 3) := by decide +kernel
theorem dX8_next_25 : decode cX8_next 25 = .ok (.aload_n 0, 1) := by decide +kernel
theorem dX8_next_26 : decode cX8_next 26 = .ok (.dup, 1) := by decide +kernel
theorem dX8_next_27 : decode cX8_next 27 = .ok (.getfield 104, 3) := by decide +kernel
theorem dX8_next_30 : decode cX8_next 30 = .ok (.iconst 1, 1) := by decide +kernel
theorem dX8_next_31 : decode cX8_next 31 = .ok (.iadd, 1) := by decide +kernel
theorem dX8_next_32 : decode cX8_next 32 = .ok (.putfield 104, 3) := by decide +kernel
theorem dX8_next_35 : decode cX8_next 35 = .ok (.goto (-35), 3) := by decide +kernel
theorem dX8_next_38 : decode cX8_next 38 = .ok (.aload_n 0, 1) := by decide +kernel
theorem dX8_next_39 : decode cX8_next 39 = .ok (.getfield 104, 3) := by decide +kernel
theorem dX8_next_42 : decode cX8_next 42 = .ok (.aload_n 0, 1) := by decide +kernel
theorem dX8_next_43 : decode cX8_next 43 = .ok (.getfield 94, 3) := by decide +kernel
theorem dX8_next_46 : decode cX8_next 46 = .ok (.if_icmp .ge 15, 3) := by decide +kernel
theorem dX8_next_49 : decode cX8_next 49 = .ok (.aload_n 0, 1) := by decide +kernel
theorem dX8_next_50 : decode cX8_next 50 = .ok (.getfield 25, 3) := by decide +kernel
theorem dX8_next_53 : decode cX8_next 53 = .ok (.aload_n 0, 1) := by decide +kernel
theorem dX8_next_54 : decode cX8_next 54 = .ok (.getfield 104, 3) := by decide +kernel
theorem dX8_next_57 : decode cX8_next 57 = .ok (.baload, 1) := by decide +kernel
theorem dX8_next_58 : decode cX8_next 58 = .ok (.goto 4, 3) := by decide +kernel
theorem dX8_next_61 : decode cX8_next 61 = .ok (.iconst 0, 1) := by decide +kernel
theorem dX8_next_62 : decode cX8_next 62 = .ok (.ireturn, 1) := by decide +kernel
theorem dX8_isEnd_0 : decode cX8_isEnd 0 = .ok (.aload_n 0, 1) := by decide +kernel
theorem dX8_isEnd_1 : decode cX8_isEnd 1 = .ok (.invokevirtual 107, 3) := by decide +kernel
theorem dX8_isEnd_4 : decode cX8_isEnd 4 = .ok (.ifCond .ne 18, 3) := by decide +kernel
theorem dX8_isEnd_7 : decode cX8_isEnd 7 = .ok (.aload_n 0, 1) := by decide +kernel
theorem dX8_isEnd_8 : decode cX8_isEnd 8 = .ok (.getfield 104, 3) := by decide +kernel
theorem dX8_isEnd_11 : decode cX8_isEnd 11 = .ok (.aload_n 0, 1) := by decide +kernel
theorem dX8_isEnd_12 : decode cX8_isEnd 12 = .ok (.getfield 94, 3) := by decide +kernel
theorem dX8_isEnd_15 : decode cX8_isEnd 15 = .ok (.if_icmp .lt 7, 3) := by decide +kernel
theorem dX8_isEnd_18 : decode cX8_isEnd 18 = .ok (.iconst 1, 1) := by decide +kernel
theorem dX8_isEnd_19 : decode cX8_isEnd 19 = .ok (.goto 4, 3) := by decide +kernel
theorem dX8_isEnd_22 : decode cX8_isEnd 22 = .ok (.iconst 0, 1) := by decide +kernel
theorem dX8_isEnd_23 : decode cX8_isEnd 23 = .ok (.ireturn, 1) := by decide +kernel
theorem dX8_isLetter_0 : decode cX8_isLetter 0 = .ok (.iload_n 1, 1) := by decide +kernel
theorem dX8_isLetter_1 : decode cX8_isLetter 1 = .ok (.aload_n 0, 1) := by decide +kernel
theorem dX8_isLetter_2 : decode cX8_isLetter 2 = .ok (.getfield 94, 3) := by decide +kernel
theorem dX8_isLetter_5 : decode cX8_isLetter 5 = .ok (.if_icmp .ge 26, 3) := by decide +kernel
theorem dX8_isLetter_8 : decode cX8_isLetter 8 = .ok (.aload_n 0, 1) := by decide +kernel
theorem dX8_isLetter_9 : decode cX8_isLetter 9 = .ok (.getfield 25, 3) := by decide +kernel
theorem dX8_isLetter_12 : decode cX8_isLetter 12 = .ok (.iload_n 1, 1) := by decide +kernel
theorem dX8_isLetter_13 : decode cX8_isLetter 13 = .ok (.baload, 1) := by decide +kernel
theorem dX8_isLetter_14 : decode cX8_isLetter 14 = .ok (.i2l, 1) := by decide +kernel
theorem dX8_isLetter_15 : decode cX8_isLetter 15 = .ok (.ldc2_w 111, 3) := by decide +kernel
theorem dX8_isLetter_18 : decode cX8_isLetter 18 = .ok (.ldc2_w 113, 3) := by decide +kernel
theorem dX8_isLetter_21 : decode cX8_isLetter 21 = .ok (.invokestatic 79, 3) := by decide +kernel
theorem dX8_isLetter_24 : decode cX8_isLetter 24 = .ok (.ifCond .eq 7, 3) := by decide +kernel
theorem dX8_isLetter_27 : decode cX8_isLetter 27 = .ok (.iconst 1, 1) := by decide +kernel
theorem dX8_isLetter_28 : decode cX8_isLetter 28 = .ok (.goto 4, 3) := by decide +kernel
theorem dX8_isLetter_31 : decode cX8_isLetter 31 = .ok (.iconst 0, 1) := by decide +kernel
theorem dX8_isLetter_32 : decode cX8_isLetter 32 = .ok (.ireturn, 1) := by decide +kernel
theorem dX8_wordNext_0 : decode cX8_wordNext 0 = .ok (.aload_n 0, 1) := by decide +kernel
theorem dX8_wordNext_1 : decode cX8_wordNext 1 = .ok (.invokevirtual 107, 3) := by decide +kernel
theorem dX8_wordNext_4 : decode cX8_wordNext 4 = .ok (.pop, 1) := by decide +kernel
theorem dX8_wordNext_5 : decode cX8_wordNext 5 = .ok (.aload_n 0, 1) := by decide +kernel
theorem dX8_wordNext_6 : decode cX8_wordNext 6 = .ok (.getfield 104, 3) := by decide +kernel
theorem dX8_wordNext_9 : decode cX8_wordNext 9 = .ok (.istore_n 1, 1) := by decide +kernel
theorem dX8_wordNext_10 : decode cX8_wordNext 10 = .ok (.aload_n 0, 1) := by decide +kernel
theorem dX8_wordNext_11 : decode cX8_wordNext 11 = .ok (.iload_n 1, 1) := by decide +kernel
theorem dX8_wordNext_12 : decode cX8_wordNext 12 = .ok (.invokevirtual 115, 3) := by decide +kernel
theorem dX8_wordNext_15 : decode cX8_wordNext 15 = .ok (.ifCond .eq 9, 3) := by decide +kernel
theorem dX8_wordNext_18 : decode cX8_wordNext 18 = .ok (.iinc 1 1, 3) := by decide +kernel
theorem dX8_wordNext_21 : decode cX8_wordNext 21 = .ok (.goto (-11), 3) := by decide +kernel
theorem dX8_wordNext_24 : decode cX8_wordNext 24 = .ok (.iload_n 1, 1) := by decide +kernel
theorem dX8_wordNext_25 : decode cX8_wordNext 25 = .ok (.aload_n 0, 1) := by decide +kernel
theorem dX8_wordNext_26 : decode cX8_wordNext 26 = .ok (.getfield 104, 3) := by decide +kernel
theorem dX8_wordNext_29 : decode cX8_wordNext 29 = .ok (.isub, 1) := by decide +kernel
theorem dX8_wordNext_30 : decode cX8_wordNext 30 = .ok (.ireturn, 1) := by decide +kernel
theorem dX8_isWord_0 : decode cX8_isWord 0 = .ok (.aload_n 0, 1) := by decide +kernel
theorem dX8_isWord_1 : decode cX8_isWord 1 = .ok (.getfield 97, 3) := by decide +kernel
theorem dX8_isWord_4 : decode cX8_isWord 4 = .ok (.ifCond .eq 18, 3) := by decide +kernel
theorem dX8_isWord_7 : decode cX8_isWord 7 = .ok (.aload_n 0, 1) := by decide +kernel
theorem dX8_isWord_8 : decode cX8_isWord 8 = .ok (.invokevirtual 118, 3) := by decide +kernel
theorem dX8_isWord_11 : decode cX8_isWord 11 = .ok (.aload_n 1, 1) := by decide +kernel
theorem dX8_isWord_12 : decode cX8_isWord 12 = .ok (.invokevirtual 121, 3) := by decide +kernel
theorem dX8_isWord_15 : decode cX8_isWord 15 = .ok (.if_icmp .ne 7, 3) := by decide +kernel
theorem dX8_isWord_18 : decode cX8_isWord 18 = .ok (.iconst 1, 1) := by decide +kernel
theorem dX8_isWord_19 : decode cX8_isWord 19 = .ok (.goto 4, 3) := by decide +kernel
theorem dX8_isWord_22 : decode cX8_isWord 22 = .ok (.iconst 0, 1) := by decide +kernel
theorem dX8_isWord_23 : decode cX8_isWord 23 = .ok (.istore_n 2, 1) := by decide +kernel
theorem dX8_isWord_24 : decode cX8_isWord 24 = .ok (.iconst 0, 1) := by decide +kernel
theorem dX8_isWord_25 : decode cX8_isWord 25 = .ok (.istore_n 3, 1) := by decide +kernel
theorem dX8_isWord_26 : decode cX8_isWord 26 = .ok (.iload_n 3, 1) := by decide +kernel
theorem dX8_isWord_27 : decode cX8_isWord 27 = .ok (.aload_n 1, 1) := by decide +kernel
theorem dX8_isWord_28 : decode cX8_isWord 28 = .ok (.invokevirtual 121, 3) := by decide +kernel
theorem dX8_isWord_31 : decode cX8_isWord 31 = .ok (.if_icmp .ge 38, 3) := by decide +kernel
theorem dX8_isWord_34 : decode cX8_isWord 34 = .ok (.iload_n 2, 1) := by decide +kernel
theorem dX8_isWord_35 : decode cX8_isWord 35 = .ok (.ifCond .eq 34, 3) := by decide +kernel
theorem dX8_isWord_38 : decode cX8_isWord 38 = .ok (.aload_n 0, 1) := by decide +kernel
theorem dX8_isWord_39 : decode cX8_isWord 39 = .ok (.getfield 25, 3) := by decide +kernel
theorem dX8_isWord_42 : decode cX8_isWord 42 = .ok (.aload_n 0, 1) := by decide +kernel
theorem dX8_isWord_43 : decode cX8_isWord 43 = .ok (.getfield 104, 3) := by decide +kernel
theorem dX8_isWord_46 : decode cX8_isWord 46 = .ok (.iload_n 3, 1) := by decide +kernel
theorem dX8_isWord_47 : decode cX8_isWord 47 = .ok (.iadd, 1) := by decide +kernel
theorem dX8_isWord_48 : decode cX8_isWord 48 = .ok (.baload, 1) := by decide +kernel
theorem dX8_isWord_49 : decode cX8_isWord 49 = .ok (.aload_n 1, 1) := by decide +kernel
theorem dX8_isWord_50 : decode cX8_isWord 50 = .ok (.iload_n 3, 1) := by decide +kernel
theorem dX8_isWord_51 : decode cX8_isWord 51 = .ok (.invokevirtual 126, 3) := by decide +kernel
theorem dX8_isWord_54 : decode cX8_isWord 54 = .ok (.if_icmp .ne 7, 3) := by decide +kernel
theorem dX8_isWord_57 : decode cX8_isWord 57 = .ok (.iconst 1, 1) := by decide +kernel
theorem dX8_isWord_58 : decode cX8_isWord 58 = .ok (.goto 4, 3) := by decide +kernel
theorem dX8_isWord_61 : decode cX8_isWord 61 = .ok (.iconst 0, 1) := by decide +kernel
theorem dX8_isWord_62 : decode cX8_isWord 62 = .ok (.istore_n 2, 1) := by decide +kernel
theorem dX8_isWord_63 : decode cX8_isWord 63 = .ok (.iinc 3 1, 3) := by decide +kernel
theorem dX8_isWord_66 : decode cX8_isWord 66 = .ok (.goto (-40), 3) := by decide +kernel
theorem dX8_isWord_69 : decode cX8_isWord 69 = .ok (.iload_n 2, 1) := by decide +kernel
theorem dX8_isWord_70 : decode cX8_isWord 70 = .ok (.ireturn, 1) := by decide +kernel
theorem dX8_takesWord_0 : decode cX8_takesWord 0 = .ok (.aload_n 0, 1) := by decide +kernel
theorem dX8_takesWord_1 : decode cX8_takesWord 1 = .ok (.aload_n 1, 1) := by decide +kernel
theorem dX8_takesWord_2 : decode cX8_takesWord 2 = .ok (.invokevirtual 130, 3) := by decide +kernel
theorem dX8_takesWord_5 : decode cX8_takesWord 5 = .ok (.istore_n 2, 1) := by decide +kernel
theorem dX8_takesWord_6 : decode cX8_takesWord 6 = .ok (.aload_n 0, 1) := by decide +kernel
theorem dX8_takesWord_7 : decode cX8_takesWord 7 = .ok (.dup, 1) := by decide +kernel
theorem dX8_takesWord_8 : decode cX8_takesWord 8 = .ok (.getfield 104, 3) := by decide +kernel
theorem dX8_takesWord_11 : decode cX8_takesWord 11 = .ok (.iload_n 2, 1) := by decide +kernel
theorem dX8_takesWord_12 : decode cX8_takesWord 12 = .ok (.ifCond .eq 10, 3) := by decide +kernel
theorem dX8_takesWord_15 : decode cX8_takesWord 15 = .ok (.aload_n 1, 1) := by decide +kernel
theorem dX8_takesWord_16 : decode cX8_takesWord 16 = .ok (.invokevirtual 121, 3) := by decide +kernel
theorem dX8_takesWord_19 : decode cX8_takesWord 19 = .ok (.goto 4, 3) := by decide +kernel
theorem dX8_takesWord_22 : decode cX8_takesWord 22 = .ok (.iconst 0, 1) := by decide +kernel
theorem dX8_takesWord_23 : decode cX8_takesWord 23 = .ok (.iadd, 1) := by decide +kernel
theorem dX8_takesWord_24 : decode cX8_takesWord 24 = .ok (.putfield 104, 3) := by decide +kernel
theorem dX8_takesWord_27 : decode cX8_takesWord 27 = .ok (.iload_n 2, 1) := by decide +kernel
theorem dX8_takesWord_28 : decode cX8_takesWord 28 = .ok (.ireturn, 1) := by decide +kernel
theorem dX8_takes_0 : decode cX8_takes 0 = .ok (.aload_n 0, 1) := by decide +kernel
theorem dX8_takes_1 : decode cX8_takes 1 = .ok (.getfield 97, 3) := by decide +kernel
theorem dX8_takes_4 : decode cX8_takes 4 = .ok (.ifCond .eq 26, 3) := by decide +kernel
theorem dX8_takes_7 : decode cX8_takes 7 = .ok (.aload_n 0, 1) := by decide +kernel
theorem dX8_takes_8 : decode cX8_takes 8 = .ok (.invokevirtual 107, 3) := by decide +kernel
theorem dX8_takes_11 : decode cX8_takes 11 = .ok (.iload_n 1, 1) := by decide +kernel
theorem dX8_takes_12 : decode cX8_takes 12 = .ok (.if_icmp .ne 18, 3) := by decide +kernel
theorem dX8_takes_15 : decode cX8_takes 15 = .ok (.aload_n 0, 1) := by decide +kernel
theorem dX8_takes_16 : decode cX8_takes 16 = .ok (.getfield 104, 3) := by decide +kernel
theorem dX8_takes_19 : decode cX8_takes 19 = .ok (.aload_n 0, 1) := by decide +kernel
theorem dX8_takes_20 : decode cX8_takes 20 = .ok (.getfield 94, 3) := by decide +kernel
theorem dX8_takes_23 : decode cX8_takes 23 = .ok (.if_icmp .ge 7, 3) := by decide +kernel
theorem dX8_takes_26 : decode cX8_takes 26 = .ok (.iconst 1, 1) := by decide +kernel
theorem dX8_takes_27 : decode cX8_takes 27 = .ok (.goto 4, 3) := by decide +kernel
theorem dX8_takes_30 : decode cX8_takes 30 = .ok (.iconst 0, 1) := by decide +kernel
theorem dX8_takes_31 : decode cX8_takes 31 = .ok (.istore_n 2, 1) := by decide +kernel
theorem dX8_takes_32 : decode cX8_takes 32 = .ok (.aload_n 0, 1) := by decide +kernel
theorem dX8_takes_33 : decode cX8_takes 33 = .ok (.dup, 1) := by decide +kernel
theorem dX8_takes_34 : decode cX8_takes 34 = .ok (.getfield 104, 3) := by decide +kernel
theorem dX8_takes_37 : decode cX8_takes 37 = .ok (.iload_n 2, 1) := by decide +kernel
theorem dX8_takes_38 : decode cX8_takes 38 = .ok (.ifCond .eq 7, 3) := by decide +kernel
theorem dX8_takes_41 : decode cX8_takes 41 = .ok (.iconst 1, 1) := by decide +kernel
theorem dX8_takes_42 : decode cX8_takes 42 = .ok (.goto 4, 3) := by decide +kernel
theorem dX8_takes_45 : decode cX8_takes 45 = .ok (.iconst 0, 1) := by decide +kernel
theorem dX8_takes_46 : decode cX8_takes 46 = .ok (.iadd, 1) := by decide +kernel
theorem dX8_takes_47 : decode cX8_takes 47 = .ok (.putfield 104, 3) := by decide +kernel
theorem dX8_takes_50 : decode cX8_takes 50 = .ok (.iload_n 2, 1) := by decide +kernel
theorem dX8_takes_51 : decode cX8_takes 51 = .ok (.ireturn, 1) := by decide +kernel
theorem dX8_isDigitNext_0 : decode cX8_isDigitNext 0 = .ok (.aload_n 0, 1) := by decide +kernel
theorem dX8_isDigitNext_1 : decode cX8_isDigitNext 1 = .ok (.getfield 97, 3) := by decide +kernel
theorem dX8_isDigitNext_4 : decode cX8_isDigitNext 4 = .ok (.ifCond .eq 35, 3) := by decide +kernel
theorem dX8_isDigitNext_7 : decode cX8_isDigitNext 7 = .ok (.aload_n 0, 1) := by decide +kernel
theorem dX8_isDigitNext_8 : decode cX8_isDigitNext 8 = .ok (.invokevirtual 107, 3) := by decide +kernel
theorem dX8_isDigitNext_11 : decode cX8_isDigitNext 11 = .ok (.i2l, 1) := by decide +kernel
theorem dX8_isDigitNext_12 : decode cX8_isDigitNext 12 = .ok (.ldc2_w 134, 3) := by decide +kernel
theorem dX8_isDigitNext_15 : decode cX8_isDigitNext 15 = .ok (.ldc2_w 136, 3) := by decide +kernel
theorem dX8_isDigitNext_18 : decode cX8_isDigitNext 18 = .ok (.invokestatic 79, 3) := by decide +kernel
theorem dX8_isDigitNext_21 : decode cX8_isDigitNext 21 = .ok (.ifCond .eq 18, 3) := by decide +kernel
theorem dX8_isDigitNext_24 : decode cX8_isDigitNext 24 = .ok (.aload_n 0, 1) := by decide +kernel
theorem dX8_isDigitNext_25 : decode cX8_isDigitNext 25 = .ok (.getfield 104, 3) := by decide +kernel
theorem dX8_isDigitNext_28 : decode cX8_isDigitNext 28 = .ok (.aload_n 0, 1) := by decide +kernel
theorem dX8_isDigitNext_29 : decode cX8_isDigitNext 29 = .ok (.getfield 94, 3) := by decide +kernel
theorem dX8_isDigitNext_32 : decode cX8_isDigitNext 32 = .ok (.if_icmp .ge 7, 3) := by decide +kernel
theorem dX8_isDigitNext_35 : decode cX8_isDigitNext 35 = .ok (.iconst 1, 1) := by decide +kernel
theorem dX8_isDigitNext_36 : decode cX8_isDigitNext 36 = .ok (.goto 4, 3) := by decide +kernel
theorem dX8_isDigitNext_39 : decode cX8_isDigitNext 39 = .ok (.iconst 0, 1) := by decide +kernel
theorem dX8_isDigitNext_40 : decode cX8_isDigitNext 40 = .ok (.ireturn, 1) := by decide +kernel
theorem dX8_digit_0 : decode cX8_digit 0 = .ok (.aload_n 0, 1) := by decide +kernel
theorem dX8_digit_1 : decode cX8_digit 1 = .ok (.invokevirtual 138, 3) := by decide +kernel
theorem dX8_digit_4 : decode cX8_digit 4 = .ok (.ifCond .eq 19, 3) := by decide +kernel
theorem dX8_digit_7 : decode cX8_digit 7 = .ok (.aload_n 0, 1) := by decide +kernel
theorem dX8_digit_8 : decode cX8_digit 8 = .ok (.getfield 25, 3) := by decide +kernel
theorem dX8_digit_11 : decode cX8_digit 11 = .ok (.aload_n 0, 1) := by decide +kernel
theorem dX8_digit_12 : decode cX8_digit 12 = .ok (.getfield 104, 3) := by decide +kernel
theorem dX8_digit_15 : decode cX8_digit 15 = .ok (.baload, 1) := by decide +kernel
theorem dX8_digit_16 : decode cX8_digit 16 = .ok (.bipush 48, 2) := by decide +kernel
theorem dX8_digit_18 : decode cX8_digit 18 = .ok (.isub, 1) := by decide +kernel
theorem dX8_digit_19 : decode cX8_digit 19 = .ok (.iload_n 1, 1) := by decide +kernel
theorem dX8_digit_20 : decode cX8_digit 20 = .ok (.if_icmp .le 13, 3) := by decide +kernel
theorem dX8_digit_23 : decode cX8_digit 23 = .ok (.aload_n 0, 1) := by decide +kernel
theorem dX8_digit_24 : decode cX8_digit 24 = .ok (.aload_n 0, 1) := by decide +kernel
theorem dX8_digit_25 : decode cX8_digit 25 = .ok (.getfield 104, 3) := by decide +kernel
theorem dX8_digit_28 : decode cX8_digit 28 = .ok (.invokevirtual 141, 3) := by decide +kernel
theorem dX8_digit_31 : decode cX8_digit 31 = .ok (.iconst 0, 1) := by decide +kernel
theorem dX8_digit_32 : decode cX8_digit 32 = .ok (.ireturn, 1) := by decide +kernel
theorem dX8_digit_33 : decode cX8_digit 33 = .ok (.aload_n 0, 1) := by decide +kernel
theorem dX8_digit_34 : decode cX8_digit 34 = .ok (.dup, 1) := by decide +kernel
theorem dX8_digit_35 : decode cX8_digit 35 = .ok (.getfield 104, 3) := by decide +kernel
theorem dX8_digit_38 : decode cX8_digit 38 = .ok (.iconst 1, 1) := by decide +kernel
theorem dX8_digit_39 : decode cX8_digit 39 = .ok (.iadd, 1) := by decide +kernel
theorem dX8_digit_40 : decode cX8_digit 40 = .ok (.putfield 104, 3) := by decide +kernel
theorem dX8_digit_43 : decode cX8_digit 43 = .ok (.aload_n 0, 1) := by decide +kernel
theorem dX8_digit_44 : decode cX8_digit 44 = .ok (.getfield 25, 3) := by decide +kernel
theorem dX8_digit_47 : decode cX8_digit 47 = .ok (.aload_n 0, 1) := by decide +kernel
theorem dX8_digit_48 : decode cX8_digit 48 = .ok (.getfield 104, 3) := by decide +kernel
theorem dX8_digit_51 : decode cX8_digit 51 = .ok (.iconst 1, 1) := by decide +kernel
theorem dX8_digit_52 : decode cX8_digit 52 = .ok (.isub, 1) := by decide +kernel
theorem dX8_digit_53 : decode cX8_digit 53 = .ok (.baload, 1) := by decide +kernel
theorem dX8_digit_54 : decode cX8_digit 54 = .ok (.bipush 48, 2) := by decide +kernel
theorem dX8_digit_56 : decode cX8_digit 56 = .ok (.isub, 1) := by decide +kernel
theorem dX8_digit_57 : decode cX8_digit 57 = .ok (.ireturn, 1) := by decide +kernel
theorem dX8_sideTold_0 : decode cX8_sideTold 0 = .ok (.aload_n 0, 1) := by decide +kernel
theorem dX8_sideTold_1 : decode cX8_sideTold 1 = .ok (.ldc 145, 2) := by decide +kernel
theorem dX8_sideTold_3 : decode cX8_sideTold 3 = .ok (.invokevirtual 130, 3) := by decide +kernel
theorem dX8_sideTold_6 : decode cX8_sideTold 6 = .ok (.ifCond .eq 7, 3) := by decide +kernel
theorem dX8_sideTold_9 : decode cX8_sideTold 9 = .ok (.iconst 0, 1) := by decide +kernel
theorem dX8_sideTold_10 : decode cX8_sideTold 10 = .ok (.goto 17, 3) := by decide +kernel
theorem dX8_sideTold_13 : decode cX8_sideTold 13 = .ok (.aload_n 0, 1) := by decide +kernel
theorem dX8_sideTold_14 : decode cX8_sideTold 14 = .ok (.ldc 147, 2) := by decide +kernel
theorem dX8_sideTold_16 : decode cX8_sideTold 16 = .ok (.invokevirtual 130, 3) := by decide +kernel
theorem dX8_sideTold_19 : decode cX8_sideTold 19 = .ok (.ifCond .eq 7, 3) := by decide +kernel
theorem dX8_sideTold_22 : decode cX8_sideTold 22 = .ok (.iconst 1, 1) := by decide +kernel
theorem dX8_sideTold_23 : decode cX8_sideTold 23 = .ok (.goto 4, 3) := by decide +kernel
theorem dX8_sideTold_26 : decode cX8_sideTold 26 = .ok (.iconst (-1), 1) := by decide +kernel
theorem dX8_sideTold_27 : decode cX8_sideTold 27 = .ok (.istore_n 2, 1) := by decide +kernel
theorem dX8_sideTold_28 : decode cX8_sideTold 28 = .ok (.iload_n 2, 1) := by decide +kernel
theorem dX8_sideTold_29 : decode cX8_sideTold 29 = .ok (.iconst (-1), 1) := by decide +kernel
theorem dX8_sideTold_30 : decode cX8_sideTold 30 = .ok (.if_icmp .eq 17, 3) := by decide +kernel
theorem dX8_sideTold_33 : decode cX8_sideTold 33 = .ok (.aload_n 0, 1) := by decide +kernel
theorem dX8_sideTold_34 : decode cX8_sideTold 34 = .ok (.getfield 149, 3) := by decide +kernel
theorem dX8_sideTold_37 : decode cX8_sideTold 37 = .ok (.iload_n 1, 1) := by decide +kernel
theorem dX8_sideTold_38 : decode cX8_sideTold 38 = .ok (.iload_n 2, 1) := by decide +kernel
theorem dX8_sideTold_39 : decode cX8_sideTold 39 = .ok (.iadd, 1) := by decide +kernel
theorem dX8_sideTold_40 : decode cX8_sideTold 40 = .ok (.ishr, 1) := by decide +kernel
theorem dX8_sideTold_41 : decode cX8_sideTold 41 = .ok (.iconst 1, 1) := by decide +kernel
theorem dX8_sideTold_42 : decode cX8_sideTold 42 = .ok (.iand, 1) := by decide +kernel
theorem dX8_sideTold_43 : decode cX8_sideTold 43 = .ok (.iconst 1, 1) := by decide +kernel
theorem dX8_sideTold_44 : decode cX8_sideTold 44 = .ok (.if_icmp .ne 13, 3) := by decide +kernel
theorem dX8_sideTold_47 : decode cX8_sideTold 47 = .ok (.aload_n 0, 1) := by decide +kernel
theorem dX8_sideTold_48 : decode cX8_sideTold 48 = .ok (.aload_n 0, 1) := by decide +kernel
theorem dX8_sideTold_49 : decode cX8_sideTold 49 = .ok (.getfield 104, 3) := by decide +kernel
theorem dX8_sideTold_52 : decode cX8_sideTold 52 = .ok (.invokevirtual 141, 3) := by decide +kernel
theorem dX8_sideTold_55 : decode cX8_sideTold 55 = .ok (.iconst 0, 1) := by decide +kernel
theorem dX8_sideTold_56 : decode cX8_sideTold 56 = .ok (.ireturn, 1) := by decide +kernel
theorem dX8_sideTold_57 : decode cX8_sideTold 57 = .ok (.aload_n 0, 1) := by decide +kernel
theorem dX8_sideTold_58 : decode cX8_sideTold 58 = .ok (.dup, 1) := by decide +kernel
theorem dX8_sideTold_59 : decode cX8_sideTold 59 = .ok (.getfield 149, 3) := by decide +kernel
theorem dX8_sideTold_62 : decode cX8_sideTold 62 = .ok (.iconst 1, 1) := by decide +kernel
theorem dX8_sideTold_63 : decode cX8_sideTold 63 = .ok (.iload_n 1, 1) := by decide +kernel
theorem dX8_sideTold_64 : decode cX8_sideTold 64 = .ok (.iload_n 2, 1) := by decide +kernel
theorem dX8_sideTold_65 : decode cX8_sideTold 65 = .ok (.iadd, 1) := by decide +kernel
theorem dX8_sideTold_66 : decode cX8_sideTold 66 = .ok (.ishl, 1) := by decide +kernel
theorem dX8_sideTold_67 : decode cX8_sideTold 67 = .ok (.ior, 1) := by decide +kernel
theorem dX8_sideTold_68 : decode cX8_sideTold 68 = .ok (.putfield 149, 3) := by decide +kernel
theorem dX8_sideTold_71 : decode cX8_sideTold 71 = .ok (.aload_n 0, 1) := by decide +kernel
theorem dX8_sideTold_72 : decode cX8_sideTold 72 = .ok (.dup, 1) := by decide +kernel
theorem dX8_sideTold_73 : decode cX8_sideTold 73 = .ok (.getfield 104, 3) := by decide +kernel
theorem dX8_sideTold_76 : decode cX8_sideTold 76 = .ok (.iconst 1, 1) := by decide +kernel
theorem dX8_sideTold_77 : decode cX8_sideTold 77 = .ok (.iadd, 1) := by decide +kernel
theorem dX8_sideTold_78 : decode cX8_sideTold 78 = .ok (.putfield 104, 3) := by decide +kernel
theorem dX8_sideTold_81 : decode cX8_sideTold 81 = .ok (.iload_n 2, 1) := by decide +kernel
theorem dX8_sideTold_82 : decode cX8_sideTold 82 = .ok (.ireturn, 1) := by decide +kernel
theorem dX8_readSkills_0 : decode cX8_readSkills 0 = .ok (.iconst 0, 1) := by decide +kernel
theorem dX8_readSkills_1 : decode cX8_readSkills 1 = .ok (.istore_n 2, 1) := by decide +kernel
theorem dX8_readSkills_2 : decode cX8_readSkills 2 = .ok (.iconst 1, 1) := by decide +kernel
theorem dX8_readSkills_3 : decode cX8_readSkills 3 = .ok (.istore_n 3, 1) := by decide +kernel
theorem dX8_readSkills_4 : decode cX8_readSkills 4 = .ok (.iload_n 3, 1) := by decide +kernel
theorem dX8_readSkills_5 : decode cX8_readSkills 5 = .ok (.ifCond .eq 62, 3) := by decide +kernel
theorem dX8_readSkills_8 : decode cX8_readSkills 8 = .ok (.iload_n 2, 1) := by decide +kernel
theorem dX8_readSkills_9 : decode cX8_readSkills 9 = .ok (.iconst 5, 1) := by decide +kernel
theorem dX8_readSkills_10 : decode cX8_readSkills 10 = .ok (.if_icmp .ne 16, 3) := by decide +kernel
theorem dX8_readSkills_13 : decode cX8_readSkills 13 = .ok (.aload_n 0, 1) := by decide +kernel
theorem dX8_readSkills_14 : decode cX8_readSkills 14 = .ok (.invokevirtual 107, 3) := by decide +kernel
theorem dX8_readSkills_17 : decode cX8_readSkills 17 = .ok (.pop, 1) := by decide +kernel
theorem dX8_readSkills_18 : decode cX8_readSkills 18 = .ok (.aload_n 0, 1) := by decide +kernel
theorem dX8_readSkills_19 : decode cX8_readSkills 19 = .ok (.aload_n 0, 1) := by decide +kernel
theorem dX8_readSkills_20 : decode cX8_readSkills 20 = .ok (.getfield 104, 3) := by decide +kernel
theorem dX8_readSkills_23 : decode cX8_readSkills 23 = .ok (.invokevirtual 141, 3) := by decide +kernel
theorem dX8_readSkills_26 : decode cX8_readSkills 26 = .ok (.aload_n 0, 1) := by decide +kernel
theorem dX8_readSkills_27 : decode cX8_readSkills 27 = .ok (.bipush 6, 2) := by decide +kernel
theorem dX8_readSkills_29 : decode cX8_readSkills 29 = .ok (.invokevirtual 152, 3) := by decide +kernel
theorem dX8_readSkills_32 : decode cX8_readSkills 32 = .ok (.istore 4, 2) := by decide +kernel
theorem dX8_readSkills_34 : decode cX8_readSkills 34 = .ok (.aload_n 0, 1) := by decide +kernel
theorem dX8_readSkills_35 : decode cX8_readSkills 35 = .ok (.getfield 97, 3) := by decide +kernel
theorem dX8_readSkills_38 : decode cX8_readSkills 38 = .ok (.ifCond .eq 21, 3) := by decide +kernel
theorem dX8_readSkills_41 : decode cX8_readSkills 41 = .ok (.aload_n 0, 1) := by decide +kernel
theorem dX8_readSkills_42 : decode cX8_readSkills 42 = .ok (.getfield 29, 3) := by decide +kernel
theorem dX8_readSkills_45 : decode cX8_readSkills 45 = .ok (.bipush 8, 2) := by decide +kernel
theorem dX8_readSkills_47 : decode cX8_readSkills 47 = .ok (.iconst 5, 1) := by decide +kernel
theorem dX8_readSkills_48 : decode cX8_readSkills 48 = .ok (.iload_n 1, 1) := by decide +kernel
theorem dX8_readSkills_49 : decode cX8_readSkills 49 = .ok (.imul, 1) := by decide +kernel
theorem dX8_readSkills_50 : decode cX8_readSkills 50 = .ok (.iadd, 1) := by decide +kernel
theorem dX8_readSkills_51 : decode cX8_readSkills 51 = .ok (.iload_n 2, 1) := by decide +kernel
theorem dX8_readSkills_52 : decode cX8_readSkills 52 = .ok (.iadd, 1) := by decide +kernel
theorem dX8_readSkills_53 : decode cX8_readSkills 53 = .ok (.iload 4, 2) := by decide +kernel
theorem dX8_readSkills_55 : decode cX8_readSkills 55 = .ok (.iastore, 1) := by decide +kernel
theorem dX8_readSkills_56 : decode cX8_readSkills 56 = .ok (.iinc 2 1, 3) := by decide +kernel
theorem dX8_readSkills_59 : decode cX8_readSkills 59 = .ok (.aload_n 0, 1) := by decide +kernel
theorem dX8_readSkills_60 : decode cX8_readSkills 60 = .ok (.invokevirtual 138, 3) := by decide +kernel
theorem dX8_readSkills_63 : decode cX8_readSkills 63 = .ok (.istore_n 3, 1) := by decide +kernel
theorem dX8_readSkills_64 : decode cX8_readSkills 64 = .ok (.goto (-60), 3) := by decide +kernel
theorem dX8_readSkills_67 : decode cX8_readSkills 67 = .ok (.aload_n 0, 1) := by decide +kernel
theorem dX8_readSkills_68 : decode cX8_readSkills 68 = .ok (.getfield 32, 3) := by decide +kernel
theorem dX8_readSkills_71 : decode cX8_readSkills 71 = .ok (.iload_n 1, 1) := by decide +kernel
theorem dX8_readSkills_72 : decode cX8_readSkills 72 = .ok (.iload_n 2, 1) := by decide +kernel
theorem dX8_readSkills_73 : decode cX8_readSkills 73 = .ok (.iastore, 1) := by decide +kernel
theorem dX8_readSkills_74 : decode cX8_readSkills 74 = .ok (.return_, 1) := by decide +kernel
theorem dX8_readNerves_0 : decode cX8_readNerves 0 = .ok (.aload_n 0, 1) := by decide +kernel
theorem dX8_readNerves_1 : decode cX8_readNerves 1 = .ok (.iload_n 2, 1) := by decide +kernel
theorem dX8_readNerves_2 : decode cX8_readNerves 2 = .ok (.invokevirtual 156, 3) := by decide +kernel
theorem dX8_readNerves_5 : decode cX8_readNerves 5 = .ok (.istore_n 3, 1) := by decide +kernel
theorem dX8_readNerves_6 : decode cX8_readNerves 6 = .ok (.aload_n 0, 1) := by decide +kernel
theorem dX8_readNerves_7 : decode cX8_readNerves 7 = .ok (.bipush 45, 2) := by decide +kernel
theorem dX8_readNerves_9 : decode cX8_readNerves 9 = .ok (.invokevirtual 159, 3) := by decide +kernel
theorem dX8_readNerves_12 : decode cX8_readNerves 12 = .ok (.istore 4, 2) := by decide +kernel
theorem dX8_readNerves_14 : decode cX8_readNerves 14 = .ok (.aload_n 0, 1) := by decide +kernel
theorem dX8_readNerves_15 : decode cX8_readNerves 15 = .ok (.iconst 3, 1) := by decide +kernel
theorem dX8_readNerves_16 : decode cX8_readNerves 16 = .ok (.invokevirtual 152, 3) := by decide +kernel
theorem dX8_readNerves_19 : decode cX8_readNerves 19 = .ok (.istore 5, 2) := by decide +kernel
theorem dX8_readNerves_21 : decode cX8_readNerves 21 = .ok (.aload_n 0, 1) := by decide +kernel
theorem dX8_readNerves_22 : decode cX8_readNerves 22 = .ok (.getfield 29, 3) := by decide +kernel
theorem dX8_readNerves_25 : decode cX8_readNerves 25 = .ok (.iload_n 1, 1) := by decide +kernel
theorem dX8_readNerves_26 : decode cX8_readNerves 26 = .ok (.iload_n 3, 1) := by decide +kernel
theorem dX8_readNerves_27 : decode cX8_readNerves 27 = .ok (.iadd, 1) := by decide +kernel
theorem dX8_readNerves_28 : decode cX8_readNerves 28 = .ok (.iload 4, 2) := by decide +kernel
theorem dX8_readNerves_30 : decode cX8_readNerves 30 = .ok (.ifCond .eq 9, 3) := by decide +kernel
theorem dX8_readNerves_33 : decode cX8_readNerves 33 = .ok (.iload 5, 2) := by decide +kernel
theorem dX8_readNerves_35 : decode cX8_readNerves 35 = .ok (.ineg, 1) := by decide +kernel
theorem dX8_readNerves_36 : decode cX8_readNerves 36 = .ok (.goto 5, 3) := by decide +kernel
theorem dX8_readNerves_39 : decode cX8_readNerves 39 = .ok (.iload 5, 2) := by decide +kernel
theorem dX8_readNerves_41 : decode cX8_readNerves 41 = .ok (.iastore, 1) := by decide +kernel
theorem dX8_readNerves_42 : decode cX8_readNerves 42 = .ok (.return_, 1) := by decide +kernel
theorem dX8_isFresh_0 : decode cX8_isFresh 0 = .ok (.aload_n 0, 1) := by decide +kernel
theorem dX8_isFresh_1 : decode cX8_isFresh 1 = .ok (.aload_n 1, 1) := by decide +kernel
theorem dX8_isFresh_2 : decode cX8_isFresh 2 = .ok (.invokevirtual 130, 3) := by decide +kernel
theorem dX8_isFresh_5 : decode cX8_isFresh 5 = .ok (.ifCond .eq 15, 3) := by decide +kernel
theorem dX8_isFresh_8 : decode cX8_isFresh 8 = .ok (.aload_n 0, 1) := by decide +kernel
theorem dX8_isFresh_9 : decode cX8_isFresh 9 = .ok (.getfield 149, 3) := by decide +kernel
theorem dX8_isFresh_12 : decode cX8_isFresh 12 = .ok (.iload_n 2, 1) := by decide +kernel
theorem dX8_isFresh_13 : decode cX8_isFresh 13 = .ok (.ishr, 1) := by decide +kernel
theorem dX8_isFresh_14 : decode cX8_isFresh 14 = .ok (.iconst 1, 1) := by decide +kernel
theorem dX8_isFresh_15 : decode cX8_isFresh 15 = .ok (.iand, 1) := by decide +kernel
theorem dX8_isFresh_16 : decode cX8_isFresh 16 = .ok (.iconst 1, 1) := by decide +kernel
theorem dX8_isFresh_17 : decode cX8_isFresh 17 = .ok (.if_icmp .ne 5, 3) := by decide +kernel
theorem dX8_isFresh_20 : decode cX8_isFresh 20 = .ok (.iconst 0, 1) := by decide +kernel
theorem dX8_isFresh_21 : decode cX8_isFresh 21 = .ok (.ireturn, 1) := by decide +kernel
theorem dX8_isFresh_22 : decode cX8_isFresh 22 = .ok (.aload_n 0, 1) := by decide +kernel
theorem dX8_isFresh_23 : decode cX8_isFresh 23 = .ok (.dup, 1) := by decide +kernel
theorem dX8_isFresh_24 : decode cX8_isFresh 24 = .ok (.getfield 149, 3) := by decide +kernel
theorem dX8_isFresh_27 : decode cX8_isFresh 27 = .ok (.iconst 1, 1) := by decide +kernel
theorem dX8_isFresh_28 : decode cX8_isFresh 28 = .ok (.iload_n 2, 1) := by decide +kernel
theorem dX8_isFresh_29 : decode cX8_isFresh 29 = .ok (.ishl, 1) := by decide +kernel
theorem dX8_isFresh_30 : decode cX8_isFresh 30 = .ok (.ior, 1) := by decide +kernel
theorem dX8_isFresh_31 : decode cX8_isFresh 31 = .ok (.putfield 149, 3) := by decide +kernel
theorem dX8_isFresh_34 : decode cX8_isFresh 34 = .ok (.aload_n 0, 1) := by decide +kernel
theorem dX8_isFresh_35 : decode cX8_isFresh 35 = .ok (.dup, 1) := by decide +kernel
theorem dX8_isFresh_36 : decode cX8_isFresh 36 = .ok (.getfield 104, 3) := by decide +kernel
theorem dX8_isFresh_39 : decode cX8_isFresh 39 = .ok (.aload_n 1, 1) := by decide +kernel
theorem dX8_isFresh_40 : decode cX8_isFresh 40 = .ok (.invokevirtual 121, 3) := by decide +kernel
theorem dX8_isFresh_43 : decode cX8_isFresh 43 = .ok (.iadd, 1) := by decide +kernel
theorem dX8_isFresh_44 : decode cX8_isFresh 44 = .ok (.putfield 104, 3) := by decide +kernel
theorem dX8_isFresh_47 : decode cX8_isFresh 47 = .ok (.iconst 1, 1) := by decide +kernel
theorem dX8_isFresh_48 : decode cX8_isFresh 48 = .ok (.ireturn, 1) := by decide +kernel
theorem dX8_readLine_0 : decode cX8_readLine 0 = .ok (.aload_n 0, 1) := by decide +kernel
theorem dX8_readLine_1 : decode cX8_readLine 1 = .ok (.ldc 145, 2) := by decide +kernel
theorem dX8_readLine_3 : decode cX8_readLine 3 = .ok (.iconst 0, 1) := by decide +kernel
theorem dX8_readLine_4 : decode cX8_readLine 4 = .ok (.invokevirtual 162, 3) := by decide +kernel
theorem dX8_readLine_7 : decode cX8_readLine 7 = .ok (.ifCond .eq 11, 3) := by decide +kernel
theorem dX8_readLine_10 : decode cX8_readLine 10 = .ok (.aload_n 0, 1) := by decide +kernel
theorem dX8_readLine_11 : decode cX8_readLine 11 = .ok (.iconst 0, 1) := by decide +kernel
theorem dX8_readLine_12 : decode cX8_readLine 12 = .ok (.invokevirtual 166, 3) := by decide +kernel
theorem dX8_readLine_15 : decode cX8_readLine 15 = .ok (.goto 117, 3) := by decide +kernel
theorem dX8_readLine_18 : decode cX8_readLine 18 = .ok (.aload_n 0, 1) := by decide +kernel
theorem dX8_readLine_19 : decode cX8_readLine 19 = .ok (.ldc 147, 2) := by decide +kernel
theorem dX8_readLine_21 : decode cX8_readLine 21 = .ok (.iconst 1, 1) := by decide +kernel
theorem dX8_readLine_22 : decode cX8_readLine 22 = .ok (.invokevirtual 162, 3) := by decide +kernel
theorem dX8_readLine_25 : decode cX8_readLine 25 = .ok (.ifCond .eq 11, 3) := by decide +kernel
theorem dX8_readLine_28 : decode cX8_readLine 28 = .ok (.aload_n 0, 1) := by decide +kernel
theorem dX8_readLine_29 : decode cX8_readLine 29 = .ok (.iconst 1, 1) := by decide +kernel
theorem dX8_readLine_30 : decode cX8_readLine 30 = .ok (.invokevirtual 166, 3) := by decide +kernel
theorem dX8_readLine_33 : decode cX8_readLine 33 = .ok (.goto 99, 3) := by decide +kernel
theorem dX8_readLine_36 : decode cX8_readLine 36 = .ok (.aload_n 0, 1) := by decide +kernel
theorem dX8_readLine_37 : decode cX8_readLine 37 = .ok (.ldc 169, 2) := by decide +kernel
theorem dX8_readLine_39 : decode cX8_readLine 39 = .ok (.invokevirtual 171, 3) := by decide +kernel
theorem dX8_readLine_42 : decode cX8_readLine 42 = .ok (.ifCond .eq 12, 3) := by decide +kernel
theorem dX8_readLine_45 : decode cX8_readLine 45 = .ok (.aload_n 0, 1) := by decide +kernel
theorem dX8_readLine_46 : decode cX8_readLine 46 = .ok (.iconst 4, 1) := by decide +kernel
theorem dX8_readLine_47 : decode cX8_readLine 47 = .ok (.iconst 2, 1) := by decide +kernel
theorem dX8_readLine_48 : decode cX8_readLine 48 = .ok (.invokevirtual 174, 3) := by decide +kernel
theorem dX8_readLine_51 : decode cX8_readLine 51 = .ok (.goto 81, 3) := by decide +kernel
theorem dX8_readLine_54 : decode cX8_readLine 54 = .ok (.aload_n 0, 1) := by decide +kernel
theorem dX8_readLine_55 : decode cX8_readLine 55 = .ok (.ldc 178, 2) := by decide +kernel
theorem dX8_readLine_57 : decode cX8_readLine 57 = .ok (.invokevirtual 171, 3) := by decide +kernel
theorem dX8_readLine_60 : decode cX8_readLine 60 = .ok (.ifCond .eq 13, 3) := by decide +kernel
theorem dX8_readLine_63 : decode cX8_readLine 63 = .ok (.aload_n 0, 1) := by decide +kernel
theorem dX8_readLine_64 : decode cX8_readLine 64 = .ok (.bipush 6, 2) := by decide +kernel
theorem dX8_readLine_66 : decode cX8_readLine 66 = .ok (.iconst 4, 1) := by decide +kernel
theorem dX8_readLine_67 : decode cX8_readLine 67 = .ok (.invokevirtual 174, 3) := by decide +kernel
theorem dX8_readLine_70 : decode cX8_readLine 70 = .ok (.goto 62, 3) := by decide +kernel
theorem dX8_readLine_73 : decode cX8_readLine 73 = .ok (.aload_n 0, 1) := by decide +kernel
theorem dX8_readLine_74 : decode cX8_readLine 74 = .ok (.ldc 180, 2) := by decide +kernel
theorem dX8_readLine_76 : decode cX8_readLine 76 = .ok (.bipush 6, 2) := by decide +kernel
theorem dX8_readLine_78 : decode cX8_readLine 78 = .ok (.invokevirtual 162, 3) := by decide +kernel
theorem dX8_readLine_81 : decode cX8_readLine 81 = .ok (.ifCond .eq 17, 3) := by decide +kernel
theorem dX8_readLine_84 : decode cX8_readLine 84 = .ok (.aload_n 0, 1) := by decide +kernel
theorem dX8_readLine_85 : decode cX8_readLine 85 = .ok (.getfield 29, 3) := by decide +kernel
theorem dX8_readLine_88 : decode cX8_readLine 88 = .ok (.iconst 1, 1) := by decide +kernel

theorem dX0_init_0 : decode cX0_init 0 = .ok (.aload_n 0, 1) := by decide +kernel
theorem dX0_init_1 : decode cX0_init 1 = .ok (.invokespecial 3, 3) := by decide +kernel
theorem dX0_init_4 : decode cX0_init 4 = .ok (.aload_n 0, 1) := by decide +kernel
theorem dX0_init_5 : decode cX0_init 5 = .ok (.bipush 11, 2) := by decide +kernel
theorem dX0_init_7 : decode cX0_init 7 = .ok (.newarray .long, 2) := by decide +kernel
theorem dX0_init_9 : decode cX0_init 9 = .ok (.putfield 9, 3) := by decide +kernel
theorem dX0_init_12 : decode cX0_init 12 = .ok (.aload_n 0, 1) := by decide +kernel
theorem dX0_init_13 : decode cX0_init 13 = .ok (.bipush 36, 2) := by decide +kernel
theorem dX0_init_15 : decode cX0_init 15 = .ok (.newarray .long, 2) := by decide +kernel
theorem dX0_init_17 : decode cX0_init 17 = .ok (.putfield 15, 3) := by decide +kernel
theorem dX0_init_20 : decode cX0_init 20 = .ok (.aload_n 0, 1) := by decide +kernel
theorem dX0_init_21 : decode cX0_init 21 = .ok (.sipush 132, 3) := by decide +kernel
theorem dX0_init_24 : decode cX0_init 24 = .ok (.newarray .long, 2) := by decide +kernel
theorem dX0_init_26 : decode cX0_init 26 = .ok (.putfield 18, 3) := by decide +kernel
theorem dX0_init_29 : decode cX0_init 29 = .ok (.aload_n 0, 1) := by decide +kernel
theorem dX0_init_30 : decode cX0_init 30 = .ok (.sipush 132, 3) := by decide +kernel
theorem dX0_init_33 : decode cX0_init 33 = .ok (.newarray .long, 2) := by decide +kernel
theorem dX0_init_35 : decode cX0_init 35 = .ok (.putfield 21, 3) := by decide +kernel
theorem dX0_init_38 : decode cX0_init 38 = .ok (.aload_n 0, 1) := by decide +kernel
theorem dX0_init_39 : decode cX0_init 39 = .ok (.lconst 1, 1) := by decide +kernel
theorem dX0_init_40 : decode cX0_init 40 = .ok (.putfield 24, 3) := by decide +kernel
theorem dX0_init_43 : decode cX0_init 43 = .ok (.return_, 1) := by decide +kernel
theorem dX0_winsOf_0 : decode cX0_winsOf 0 = .ok (.iload_n 1, 1) := by decide +kernel
theorem dX0_winsOf_1 : decode cX0_winsOf 1 = .ok (.ifCond .ne 10, 3) := by decide +kernel
theorem dX0_winsOf_4 : decode cX0_winsOf 4 = .ok (.aload_n 0, 1) := by decide +kernel
theorem dX0_winsOf_5 : decode cX0_winsOf 5 = .ok (.getfield 28, 3) := by decide +kernel
theorem dX0_winsOf_8 : decode cX0_winsOf 8 = .ok (.goto 7, 3) := by decide +kernel
theorem dX0_winsOf_11 : decode cX0_winsOf 11 = .ok (.aload_n 0, 1) := by decide +kernel
theorem dX0_winsOf_12 : decode cX0_winsOf 12 = .ok (.getfield 31, 3) := by decide +kernel
theorem dX0_winsOf_15 : decode cX0_winsOf 15 = .ok (.lreturn, 1) := by decide +kernel
theorem dX0_gap_0 : decode cX0_gap 0 = .ok (.aload_n 0, 1) := by decide +kernel
theorem dX0_gap_1 : decode cX0_gap 1 = .ok (.getfield 28, 3) := by decide +kernel
theorem dX0_gap_4 : decode cX0_gap 4 = .ok (.aload_n 0, 1) := by decide +kernel
theorem dX0_gap_5 : decode cX0_gap 5 = .ok (.getfield 31, 3) := by decide +kernel
theorem dX0_gap_8 : decode cX0_gap 8 = .ok (.lcmp, 1) := by decide +kernel
theorem dX0_gap_9 : decode cX0_gap 9 = .ok (.ifCond .le 15, 3) := by decide +kernel
theorem dX0_gap_12 : decode cX0_gap 12 = .ok (.aload_n 0, 1) := by decide +kernel
theorem dX0_gap_13 : decode cX0_gap 13 = .ok (.getfield 28, 3) := by decide +kernel
theorem dX0_gap_16 : decode cX0_gap 16 = .ok (.aload_n 0, 1) := by decide +kernel
theorem dX0_gap_17 : decode cX0_gap 17 = .ok (.getfield 31, 3) := by decide +kernel
theorem dX0_gap_20 : decode cX0_gap 20 = .ok (.lsub, 1) := by decide +kernel
theorem dX0_gap_21 : decode cX0_gap 21 = .ok (.goto 12, 3) := by decide +kernel
theorem dX0_gap_24 : decode cX0_gap 24 = .ok (.aload_n 0, 1) := by decide +kernel
theorem dX0_gap_25 : decode cX0_gap 25 = .ok (.getfield 31, 3) := by decide +kernel
theorem dX0_gap_28 : decode cX0_gap 28 = .ok (.aload_n 0, 1) := by decide +kernel
theorem dX0_gap_29 : decode cX0_gap 29 = .ok (.getfield 28, 3) := by decide +kernel
theorem dX0_gap_32 : decode cX0_gap 32 = .ok (.lsub, 1) := by decide +kernel
theorem dX0_gap_33 : decode cX0_gap 33 = .ok (.lreturn, 1) := by decide +kernel
theorem dX0_oddsAgainst_0 : decode cX0_oddsAgainst 0 = .ok (.aload_n 0, 1) := by decide +kernel
theorem dX0_oddsAgainst_1 : decode cX0_oddsAgainst 1 = .ok (.iload_n 1, 1) := by decide +kernel
theorem dX0_oddsAgainst_2 : decode cX0_oddsAgainst 2 = .ok (.invokevirtual 34, 3) := by decide +kernel
theorem dX0_oddsAgainst_5 : decode cX0_oddsAgainst 5 = .ok (.aload_n 0, 1) := by decide +kernel
theorem dX0_oddsAgainst_6 : decode cX0_oddsAgainst 6 = .ok (.getfield 24, 3) := by decide +kernel
theorem dX0_oddsAgainst_9 : decode cX0_oddsAgainst 9 = .ok (.aload_n 2, 1) := by decide +kernel
theorem dX0_oddsAgainst_10 : decode cX0_oddsAgainst 10 = .ok (.getfield 38, 3) := by decide +kernel
theorem dX0_oddsAgainst_13 : decode cX0_oddsAgainst 13 = .ok (.aload_n 2, 1) := by decide +kernel
theorem dX0_oddsAgainst_14 : decode cX0_oddsAgainst 14 = .ok (.getfield 43, 3) := by decide +kernel
theorem dX0_oddsAgainst_17 : decode cX0_oddsAgainst 17 = .ok (.invokestatic 46, 3) := by decide +kernel
theorem dX0_oddsAgainst_20 : decode cX0_oddsAgainst 20 = .ok (.ireturn, 1) := by decide +kernel
theorem dX0_endsAt_0 : decode cX0_endsAt 0 = .ok (.iload_n 1, 1) := by decide +kernel
theorem dX0_endsAt_1 : decode cX0_endsAt 1 = .ok (.ifCond .lt 21, 3) := by decide +kernel
theorem dX0_endsAt_4 : decode cX0_endsAt 4 = .ok (.iload_n 1, 1) := by decide +kernel
theorem dX0_endsAt_5 : decode cX0_endsAt 5 = .ok (.aload_n 0, 1) := by decide +kernel
theorem dX0_endsAt_6 : decode cX0_endsAt 6 = .ok (.getfield 9, 3) := by decide +kernel
theorem dX0_endsAt_9 : decode cX0_endsAt 9 = .ok (.arraylength, 1) := by decide +kernel
theorem dX0_endsAt_10 : decode cX0_endsAt 10 = .ok (.if_icmp .ge 12, 3) := by decide +kernel
theorem dX0_endsAt_13 : decode cX0_endsAt 13 = .ok (.aload_n 0, 1) := by decide +kernel
theorem dX0_endsAt_14 : decode cX0_endsAt 14 = .ok (.getfield 9, 3) := by decide +kernel
theorem dX0_endsAt_17 : decode cX0_endsAt 17 = .ok (.iload_n 1, 1) := by decide +kernel
theorem dX0_endsAt_18 : decode cX0_endsAt 18 = .ok (.laload, 1) := by decide +kernel
theorem dX0_endsAt_19 : decode cX0_endsAt 19 = .ok (.goto 4, 3) := by decide +kernel
theorem dX0_endsAt_22 : decode cX0_endsAt 22 = .ok (.lconst 0, 1) := by decide +kernel
theorem dX0_endsAt_23 : decode cX0_endsAt 23 = .ok (.lreturn, 1) := by decide +kernel
theorem dX0_scoreAt_0 : decode cX0_scoreAt 0 = .ok (.iload_n 1, 1) := by decide +kernel
theorem dX0_scoreAt_1 : decode cX0_scoreAt 1 = .ok (.bipush 6, 2) := by decide +kernel
theorem dX0_scoreAt_3 : decode cX0_scoreAt 3 = .ok (.imul, 1) := by decide +kernel
theorem dX0_scoreAt_4 : decode cX0_scoreAt 4 = .ok (.iload_n 2, 1) := by decide +kernel
theorem dX0_scoreAt_5 : decode cX0_scoreAt 5 = .ok (.iadd, 1) := by decide +kernel
theorem dX0_scoreAt_6 : decode cX0_scoreAt 6 = .ok (.istore_n 3, 1) := by decide +kernel
theorem dX0_scoreAt_7 : decode cX0_scoreAt 7 = .ok (.iload_n 3, 1) := by decide +kernel
theorem dX0_scoreAt_8 : decode cX0_scoreAt 8 = .ok (.ifCond .lt 21, 3) := by decide +kernel
theorem dX0_scoreAt_11 : decode cX0_scoreAt 11 = .ok (.iload_n 3, 1) := by decide +kernel
theorem dX0_scoreAt_12 : decode cX0_scoreAt 12 = .ok (.aload_n 0, 1) := by decide +kernel
theorem dX0_scoreAt_13 : decode cX0_scoreAt 13 = .ok (.getfield 15, 3) := by decide +kernel
theorem dX0_scoreAt_16 : decode cX0_scoreAt 16 = .ok (.arraylength, 1) := by decide +kernel
theorem dX0_scoreAt_17 : decode cX0_scoreAt 17 = .ok (.if_icmp .ge 12, 3) := by decide +kernel
theorem dX0_scoreAt_20 : decode cX0_scoreAt 20 = .ok (.aload_n 0, 1) := by decide +kernel
theorem dX0_scoreAt_21 : decode cX0_scoreAt 21 = .ok (.getfield 15, 3) := by decide +kernel
theorem dX0_scoreAt_24 : decode cX0_scoreAt 24 = .ok (.iload_n 3, 1) := by decide +kernel
theorem dX0_scoreAt_25 : decode cX0_scoreAt 25 = .ok (.laload, 1) := by decide +kernel
theorem dX0_scoreAt_26 : decode cX0_scoreAt 26 = .ok (.goto 4, 3) := by decide +kernel
theorem dX0_scoreAt_29 : decode cX0_scoreAt 29 = .ok (.lconst 0, 1) := by decide +kernel
theorem dX0_scoreAt_30 : decode cX0_scoreAt 30 = .ok (.lreturn, 1) := by decide +kernel
theorem dX0_look_0 : decode cX0_look 0 = .ok (.aload_n 1, 1) := by decide +kernel
theorem dX0_look_1 : decode cX0_look 1 = .ok (.invokevirtual 50, 3) := by decide +kernel
theorem dX0_look_4 : decode cX0_look 4 = .ok (.ifCond .eq 37, 3) := by decide +kernel
theorem dX0_look_7 : decode cX0_look 7 = .ok (.aload_n 0, 1) := by decide +kernel
theorem dX0_look_8 : decode cX0_look 8 = .ok (.aload_n 1, 1) := by decide +kernel
theorem dX0_look_9 : decode cX0_look 9 = .ok (.invokevirtual 56, 3) := by decide +kernel
theorem dX0_look_12 : decode cX0_look 12 = .ok (.ifCond .ne 7, 3) := by decide +kernel
theorem dX0_look_15 : decode cX0_look 15 = .ok (.lconst 1, 1) := by decide +kernel
theorem dX0_look_16 : decode cX0_look 16 = .ok (.goto 4, 3) := by decide +kernel
theorem dX0_look_19 : decode cX0_look 19 = .ok (.lconst 0, 1) := by decide +kernel
theorem dX0_look_20 : decode cX0_look 20 = .ok (.putfield 28, 3) := by decide +kernel
theorem dX0_look_23 : decode cX0_look 23 = .ok (.aload_n 0, 1) := by decide +kernel
theorem dX0_look_24 : decode cX0_look 24 = .ok (.lconst 1, 1) := by decide +kernel
theorem dX0_look_25 : decode cX0_look 25 = .ok (.aload_n 0, 1) := by decide +kernel
theorem dX0_look_26 : decode cX0_look 26 = .ok (.getfield 28, 3) := by decide +kernel
theorem dX0_look_29 : decode cX0_look 29 = .ok (.lsub, 1) := by decide +kernel
theorem dX0_look_30 : decode cX0_look 30 = .ok (.putfield 31, 3) := by decide +kernel
theorem dX0_look_33 : decode cX0_look 33 = .ok (.aload_n 0, 1) := by decide +kernel
theorem dX0_look_34 : decode cX0_look 34 = .ok (.lconst 1, 1) := by decide +kernel
theorem dX0_look_35 : decode cX0_look 35 = .ok (.putfield 24, 3) := by decide +kernel
theorem dX0_look_38 : decode cX0_look 38 = .ok (.goto 103, 3) := by decide +kernel
theorem dX0_look_41 : decode cX0_look 41 = .ok (.aload_n 1, 1) := by decide +kernel
theorem dX0_look_42 : decode cX0_look 42 = .ok (.getfield 60, 3) := by decide +kernel
theorem dX0_look_45 : decode cX0_look 45 = .ok (.iconst 2, 1) := by decide +kernel
theorem dX0_look_46 : decode cX0_look 46 = .ok (.aload_n 1, 1) := by decide +kernel
theorem dX0_look_47 : decode cX0_look 47 = .ok (.getfield 64, 3) := by decide +kernel
theorem dX0_look_50 : decode cX0_look 50 = .ok (.imul, 1) := by decide +kernel
theorem dX0_look_51 : decode cX0_look 51 = .ok (.if_icmp .ge 85, 3) := by decide +kernel
theorem dX0_look_54 : decode cX0_look 54 = .ok (.aload_n 0, 1) := by decide +kernel
theorem dX0_look_55 : decode cX0_look 55 = .ok (.aload_n 1, 1) := by decide +kernel
theorem dX0_look_56 : decode cX0_look 56 = .ok (.iconst 0, 1) := by decide +kernel
theorem dX0_look_57 : decode cX0_look 57 = .ok (.invokevirtual 67, 3) := by decide +kernel
theorem dX0_look_60 : decode cX0_look 60 = .ok (.aload_n 0, 1) := by decide +kernel
theorem dX0_look_61 : decode cX0_look 61 = .ok (.aload_n 1, 1) := by decide +kernel
theorem dX0_look_62 : decode cX0_look 62 = .ok (.iconst 0, 1) := by decide +kernel
theorem dX0_look_63 : decode cX0_look 63 = .ok (.invokevirtual 71, 3) := by decide +kernel
theorem dX0_look_66 : decode cX0_look 66 = .ok (.aload_n 0, 1) := by decide +kernel
theorem dX0_look_67 : decode cX0_look 67 = .ok (.aload_n 0, 1) := by decide +kernel
theorem dX0_look_68 : decode cX0_look 68 = .ok (.getfield 74, 3) := by decide +kernel
theorem dX0_look_71 : decode cX0_look 71 = .ok (.aload_n 0, 1) := by decide +kernel
theorem dX0_look_72 : decode cX0_look 72 = .ok (.getfield 77, 3) := by decide +kernel
theorem dX0_look_75 : decode cX0_look 75 = .ok (.lmul, 1) := by decide +kernel
theorem dX0_look_76 : decode cX0_look 76 = .ok (.aload_n 0, 1) := by decide +kernel
theorem dX0_look_77 : decode cX0_look 77 = .ok (.getfield 80, 3) := by decide +kernel
theorem dX0_look_80 : decode cX0_look 80 = .ok (.aload_n 0, 1) := by decide +kernel
theorem dX0_look_81 : decode cX0_look 81 = .ok (.getfield 83, 3) := by decide +kernel
theorem dX0_look_84 : decode cX0_look 84 = .ok (.lmul, 1) := by decide +kernel
theorem dX0_look_85 : decode cX0_look 85 = .ok (.ladd, 1) := by decide +kernel
theorem dX0_look_86 : decode cX0_look 86 = .ok (.putfield 28, 3) := by decide +kernel
theorem dX0_look_89 : decode cX0_look 89 = .ok (.aload_n 0, 1) := by decide +kernel
theorem dX0_look_90 : decode cX0_look 90 = .ok (.aload_n 0, 1) := by decide +kernel
theorem dX0_look_91 : decode cX0_look 91 = .ok (.getfield 86, 3) := by decide +kernel
theorem dX0_look_94 : decode cX0_look 94 = .ok (.aload_n 0, 1) := by decide +kernel
theorem dX0_look_95 : decode cX0_look 95 = .ok (.getfield 77, 3) := by decide +kernel
theorem dX0_look_98 : decode cX0_look 98 = .ok (.lmul, 1) := by decide +kernel
theorem dX0_look_99 : decode cX0_look 99 = .ok (.aload_n 0, 1) := by decide +kernel
theorem dX0_look_100 : decode cX0_look 100 = .ok (.getfield 80, 3) := by decide +kernel
theorem dX0_look_103 : decode cX0_look 103 = .ok (.aload_n 0, 1) := by decide +kernel
theorem dX0_look_104 : decode cX0_look 104 = .ok (.getfield 89, 3) := by decide +kernel
theorem dX0_look_107 : decode cX0_look 107 = .ok (.lmul, 1) := by decide +kernel
theorem dX0_look_108 : decode cX0_look 108 = .ok (.ladd, 1) := by decide +kernel
theorem dX0_look_109 : decode cX0_look 109 = .ok (.putfield 31, 3) := by decide +kernel
theorem dX0_look_112 : decode cX0_look 112 = .ok (.aload_n 0, 1) := by decide +kernel
theorem dX0_look_113 : decode cX0_look 113 = .ok (.aload_n 0, 1) := by decide +kernel
theorem dX0_look_114 : decode cX0_look 114 = .ok (.getfield 92, 3) := by decide +kernel
theorem dX0_look_117 : decode cX0_look 117 = .ok (.aload_n 1, 1) := by decide +kernel
theorem dX0_look_118 : decode cX0_look 118 = .ok (.getfield 60, 3) := by decide +kernel
theorem dX0_look_121 : decode cX0_look 121 = .ok (.isub, 1) := by decide +kernel
theorem dX0_look_122 : decode cX0_look 122 = .ok (.invokestatic 95, 3) := by decide +kernel
theorem dX0_look_125 : decode cX0_look 125 = .ok (.aload_n 0, 1) := by decide +kernel
theorem dX0_look_126 : decode cX0_look 126 = .ok (.getfield 77, 3) := by decide +kernel
theorem dX0_look_129 : decode cX0_look 129 = .ok (.lmul, 1) := by decide +kernel
theorem dX0_look_130 : decode cX0_look 130 = .ok (.putfield 24, 3) := by decide +kernel
theorem dX0_look_133 : decode cX0_look 133 = .ok (.goto 8, 3) := by decide +kernel
theorem dX0_look_136 : decode cX0_look 136 = .ok (.aload_n 0, 1) := by decide +kernel
theorem dX0_look_137 : decode cX0_look 137 = .ok (.aload_n 1, 1) := by decide +kernel
theorem dX0_look_138 : decode cX0_look 138 = .ok (.invokevirtual 98, 3) := by decide +kernel
theorem dX0_look_141 : decode cX0_look 141 = .ok (.return_, 1) := by decide +kernel
theorem dX0_lookSudden_0 : decode cX0_lookSudden 0 = .ok (.aload_n 1, 1) := by decide +kernel
theorem dX0_lookSudden_1 : decode cX0_lookSudden 1 = .ok (.getfield 60, 3) := by decide +kernel
theorem dX0_lookSudden_4 : decode cX0_lookSudden 4 = .ok (.iconst 2, 1) := by decide +kernel
theorem dX0_lookSudden_5 : decode cX0_lookSudden 5 = .ok (.irem, 1) := by decide +kernel
theorem dX0_lookSudden_6 : decode cX0_lookSudden 6 = .ok (.iconst 1, 1) := by decide +kernel
theorem dX0_lookSudden_7 : decode cX0_lookSudden 7 = .ok (.if_icmp .ne 7, 3) := by decide +kernel
theorem dX0_lookSudden_10 : decode cX0_lookSudden 10 = .ok (.iconst 1, 1) := by decide +kernel
theorem dX0_lookSudden_11 : decode cX0_lookSudden 11 = .ok (.goto 4, 3) := by decide +kernel
theorem dX0_lookSudden_14 : decode cX0_lookSudden 14 = .ok (.iconst 0, 1) := by decide +kernel
theorem dX0_lookSudden_15 : decode cX0_lookSudden 15 = .ok (.istore_n 2, 1) := by decide +kernel
theorem dX0_lookSudden_16 : decode cX0_lookSudden 16 = .ok (.aload_n 0, 1) := by decide +kernel
theorem dX0_lookSudden_17 : decode cX0_lookSudden 17 = .ok (.aload_n 1, 1) := by decide +kernel
theorem dX0_lookSudden_18 : decode cX0_lookSudden 18 = .ok (.aload_n 1, 1) := by decide +kernel
theorem dX0_lookSudden_19 : decode cX0_lookSudden 19 = .ok (.invokevirtual 102, 3) := by decide +kernel
theorem dX0_lookSudden_22 : decode cX0_lookSudden 22 = .ok (.iload_n 2, 1) := by decide +kernel
theorem dX0_lookSudden_23 : decode cX0_lookSudden 23 = .ok (.ifCond .eq 7, 3) := by decide +kernel
theorem dX0_lookSudden_26 : decode cX0_lookSudden 26 = .ok (.iconst 1, 1) := by decide +kernel
theorem dX0_lookSudden_27 : decode cX0_lookSudden 27 = .ok (.goto 4, 3) := by decide +kernel
theorem dX0_lookSudden_30 : decode cX0_lookSudden 30 = .ok (.iconst 0, 1) := by decide +kernel
theorem dX0_lookSudden_31 : decode cX0_lookSudden 31 = .ok (.iadd, 1) := by decide +kernel
theorem dX0_lookSudden_32 : decode cX0_lookSudden 32 = .ok (.invokevirtual 71, 3) := by decide +kernel
theorem dX0_lookSudden_35 : decode cX0_lookSudden 35 = .ok (.aload_n 0, 1) := by decide +kernel
theorem dX0_lookSudden_36 : decode cX0_lookSudden 36 = .ok (.aload_n 0, 1) := by decide +kernel
theorem dX0_lookSudden_37 : decode cX0_lookSudden 37 = .ok (.getfield 83, 3) := by decide +kernel
theorem dX0_lookSudden_40 : decode cX0_lookSudden 40 = .ok (.putfield 28, 3) := by decide +kernel
theorem dX0_lookSudden_43 : decode cX0_lookSudden 43 = .ok (.aload_n 0, 1) := by decide +kernel
theorem dX0_lookSudden_44 : decode cX0_lookSudden 44 = .ok (.aload_n 0, 1) := by decide +kernel
theorem dX0_lookSudden_45 : decode cX0_lookSudden 45 = .ok (.getfield 89, 3) := by decide +kernel
theorem dX0_lookSudden_48 : decode cX0_lookSudden 48 = .ok (.putfield 31, 3) := by decide +kernel
theorem dX0_lookSudden_51 : decode cX0_lookSudden 51 = .ok (.aload_n 0, 1) := by decide +kernel
theorem dX0_lookSudden_52 : decode cX0_lookSudden 52 = .ok (.aload_n 0, 1) := by decide +kernel
theorem dX0_lookSudden_53 : decode cX0_lookSudden 53 = .ok (.getfield 77, 3) := by decide +kernel
theorem dX0_lookSudden_56 : decode cX0_lookSudden 56 = .ok (.putfield 24, 3) := by decide +kernel
theorem dX0_lookSudden_59 : decode cX0_lookSudden 59 = .ok (.iload_n 2, 1) := by decide +kernel
theorem dX0_lookSudden_60 : decode cX0_lookSudden 60 = .ok (.ifCond .eq 138, 3) := by decide +kernel
theorem dX0_lookSudden_63 : decode cX0_lookSudden 63 = .ok (.aload_n 1, 1) := by decide +kernel
theorem dX0_lookSudden_64 : decode cX0_lookSudden 64 = .ok (.invokevirtual 105, 3) := by decide +kernel
theorem dX0_lookSudden_67 : decode cX0_lookSudden 67 = .ok (.istore_n 3, 1) := by decide +kernel
theorem dX0_lookSudden_68 : decode cX0_lookSudden 68 = .ok (.aload_n 1, 1) := by decide +kernel
theorem dX0_lookSudden_69 : decode cX0_lookSudden 69 = .ok (.invokevirtual 108, 3) := by decide +kernel
theorem dX0_lookSudden_72 : decode cX0_lookSudden 72 = .ok (.istore 4, 2) := by decide +kernel
theorem dX0_lookSudden_74 : decode cX0_lookSudden 74 = .ok (.aload_n 1, 1) := by decide +kernel
theorem dX0_lookSudden_75 : decode cX0_lookSudden 75 = .ok (.invokevirtual 111, 3) := by decide +kernel
theorem dX0_lookSudden_78 : decode cX0_lookSudden 78 = .ok (.ifCond .eq 7, 3) := by decide +kernel
theorem dX0_lookSudden_81 : decode cX0_lookSudden 81 = .ok (.iconst 1, 1) := by decide +kernel
theorem dX0_lookSudden_82 : decode cX0_lookSudden 82 = .ok (.goto 4, 3) := by decide +kernel
theorem dX0_lookSudden_85 : decode cX0_lookSudden 85 = .ok (.iconst 0, 1) := by decide +kernel
theorem dX0_lookSudden_86 : decode cX0_lookSudden 86 = .ok (.istore 5, 2) := by decide +kernel
theorem dX0_lookSudden_88 : decode cX0_lookSudden 88 = .ok (.iload 5, 2) := by decide +kernel
theorem dX0_lookSudden_90 : decode cX0_lookSudden 90 = .ok (.ifCond .eq 8, 3) := by decide +kernel
theorem dX0_lookSudden_93 : decode cX0_lookSudden 93 = .ok (.iload 4, 2) := by decide +kernel
theorem dX0_lookSudden_95 : decode cX0_lookSudden 95 = .ok (.goto 8, 3) := by decide +kernel
theorem dX0_lookSudden_98 : decode cX0_lookSudden 98 = .ok (.bipush 6, 2) := by decide +kernel
theorem dX0_lookSudden_100 : decode cX0_lookSudden 100 = .ok (.iload 4, 2) := by decide +kernel
theorem dX0_lookSudden_102 : decode cX0_lookSudden 102 = .ok (.isub, 1) := by decide +kernel
theorem dX0_lookSudden_103 : decode cX0_lookSudden 103 = .ok (.istore 6, 2) := by decide +kernel
theorem dX0_lookSudden_105 : decode cX0_lookSudden 105 = .ok (.iload 5, 2) := by decide +kernel
theorem dX0_lookSudden_107 : decode cX0_lookSudden 107 = .ok (.ifCond .eq 9, 3) := by decide +kernel
theorem dX0_lookSudden_110 : decode cX0_lookSudden 110 = .ok (.iconst 1, 1) := by decide +kernel
theorem dX0_lookSudden_111 : decode cX0_lookSudden 111 = .ok (.iload_n 3, 1) := by decide +kernel
theorem dX0_lookSudden_112 : decode cX0_lookSudden 112 = .ok (.isub, 1) := by decide +kernel
theorem dX0_lookSudden_113 : decode cX0_lookSudden 113 = .ok (.goto 4, 3) := by decide +kernel
theorem dX0_lookSudden_116 : decode cX0_lookSudden 116 = .ok (.iload_n 3, 1) := by decide +kernel
theorem dX0_lookSudden_117 : decode cX0_lookSudden 117 = .ok (.istore 7, 2) := by decide +kernel
theorem dX0_lookSudden_119 : decode cX0_lookSudden 119 = .ok (.aload_n 0, 1) := by decide +kernel
theorem dX0_lookSudden_120 : decode cX0_lookSudden 120 = .ok (.iload 6, 2) := by decide +kernel
theorem dX0_lookSudden_122 : decode cX0_lookSudden 122 = .ok (.i2l, 1) := by decide +kernel
theorem dX0_lookSudden_123 : decode cX0_lookSudden 123 = .ok (.aload_n 0, 1) := by decide +kernel
theorem dX0_lookSudden_124 : decode cX0_lookSudden 124 = .ok (.getfield 83, 3) := by decide +kernel
theorem dX0_lookSudden_127 : decode cX0_lookSudden 127 = .ok (.lmul, 1) := by decide +kernel
theorem dX0_lookSudden_128 : decode cX0_lookSudden 128 = .ok (.iload 7, 2) := by decide +kernel
theorem dX0_lookSudden_130 : decode cX0_lookSudden 130 = .ok (.ifCond .ne 17, 3) := by decide +kernel
theorem dX0_lookSudden_133 : decode cX0_lookSudden 133 = .ok (.bipush 6, 2) := by decide +kernel
theorem dX0_lookSudden_135 : decode cX0_lookSudden 135 = .ok (.iload 6, 2) := by decide +kernel
theorem dX0_lookSudden_137 : decode cX0_lookSudden 137 = .ok (.isub, 1) := by decide +kernel
theorem dX0_lookSudden_138 : decode cX0_lookSudden 138 = .ok (.i2l, 1) := by decide +kernel
theorem dX0_lookSudden_139 : decode cX0_lookSudden 139 = .ok (.aload_n 0, 1) := by decide +kernel
theorem dX0_lookSudden_140 : decode cX0_lookSudden 140 = .ok (.getfield 77, 3) := by decide +kernel
theorem dX0_lookSudden_143 : decode cX0_lookSudden 143 = .ok (.lmul, 1) := by decide +kernel
theorem dX0_lookSudden_144 : decode cX0_lookSudden 144 = .ok (.goto 4, 3) := by decide +kernel
theorem dX0_lookSudden_147 : decode cX0_lookSudden 147 = .ok (.lconst 0, 1) := by decide +kernel
theorem dX0_lookSudden_148 : decode cX0_lookSudden 148 = .ok (.ladd, 1) := by decide +kernel
theorem dX0_lookSudden_149 : decode cX0_lookSudden 149 = .ok (.putfield 28, 3) := by decide +kernel
theorem dX0_lookSudden_152 : decode cX0_lookSudden 152 = .ok (.aload_n 0, 1) := by decide +kernel
theorem dX0_lookSudden_153 : decode cX0_lookSudden 153 = .ok (.iload 6, 2) := by decide +kernel
theorem dX0_lookSudden_155 : decode cX0_lookSudden 155 = .ok (.i2l, 1) := by decide +kernel
theorem dX0_lookSudden_156 : decode cX0_lookSudden 156 = .ok (.aload_n 0, 1) := by decide +kernel
theorem dX0_lookSudden_157 : decode cX0_lookSudden 157 = .ok (.getfield 89, 3) := by decide +kernel
theorem dX0_lookSudden_160 : decode cX0_lookSudden 160 = .ok (.lmul, 1) := by decide +kernel
theorem dX0_lookSudden_161 : decode cX0_lookSudden 161 = .ok (.iload 7, 2) := by decide +kernel
theorem dX0_lookSudden_163 : decode cX0_lookSudden 163 = .ok (.iconst 1, 1) := by decide +kernel
theorem dX0_lookSudden_164 : decode cX0_lookSudden 164 = .ok (.if_icmp .ne 17, 3) := by decide +kernel
theorem dX0_lookSudden_167 : decode cX0_lookSudden 167 = .ok (.bipush 6, 2) := by decide +kernel
theorem dX0_lookSudden_169 : decode cX0_lookSudden 169 = .ok (.iload 6, 2) := by decide +kernel
theorem dX0_lookSudden_171 : decode cX0_lookSudden 171 = .ok (.isub, 1) := by decide +kernel
theorem dX0_lookSudden_172 : decode cX0_lookSudden 172 = .ok (.i2l, 1) := by decide +kernel
theorem dX0_lookSudden_173 : decode cX0_lookSudden 173 = .ok (.aload_n 0, 1) := by decide +kernel
theorem dX0_lookSudden_174 : decode cX0_lookSudden 174 = .ok (.getfield 77, 3) := by decide +kernel
theorem dX0_lookSudden_177 : decode cX0_lookSudden 177 = .ok (.lmul, 1) := by decide +kernel
theorem dX0_lookSudden_178 : decode cX0_lookSudden 178 = .ok (.goto 4, 3) := by decide +kernel
theorem dX0_lookSudden_181 : decode cX0_lookSudden 181 = .ok (.lconst 0, 1) := by decide +kernel
theorem dX0_lookSudden_182 : decode cX0_lookSudden 182 = .ok (.ladd, 1) := by decide +kernel
theorem dX0_lookSudden_183 : decode cX0_lookSudden 183 = .ok (.putfield 31, 3) := by decide +kernel
theorem dX0_lookSudden_186 : decode cX0_lookSudden 186 = .ok (.aload_n 0, 1) := by decide +kernel
theorem dX0_lookSudden_187 : decode cX0_lookSudden 187 = .ok (.ldc2_w 114, 3) := by decide +kernel
theorem dX0_lookSudden_190 : decode cX0_lookSudden 190 = .ok (.aload_n 0, 1) := by decide +kernel
theorem dX0_lookSudden_191 : decode cX0_lookSudden 191 = .ok (.getfield 77, 3) := by decide +kernel
theorem dX0_lookSudden_194 : decode cX0_lookSudden 194 = .ok (.lmul, 1) := by decide +kernel
theorem dX0_lookSudden_195 : decode cX0_lookSudden 195 = .ok (.putfield 24, 3) := by decide +kernel
theorem dX0_lookSudden_198 : decode cX0_lookSudden 198 = .ok (.return_, 1) := by decide +kernel
theorem dX0_goEndless_0 : decode cX0_goEndless 0 = .ok (.aload_n 1, 1) := by decide +kernel
theorem dX0_goEndless_1 : decode cX0_goEndless 1 = .ok (.getfield 64, 3) := by decide +kernel
theorem dX0_goEndless_4 : decode cX0_goEndless 4 = .ok (.istore_n 3, 1) := by decide +kernel
theorem dX0_goEndless_5 : decode cX0_goEndless 5 = .ok (.aload_n 1, 1) := by decide +kernel
theorem dX0_goEndless_6 : decode cX0_goEndless 6 = .ok (.getfield 116, 3) := by decide +kernel
theorem dX0_goEndless_9 : decode cX0_goEndless 9 = .ok (.istore 4, 2) := by decide +kernel
theorem dX0_goEndless_11 : decode cX0_goEndless 11 = .ok (.lconst 1, 1) := by decide +kernel
theorem dX0_goEndless_12 : decode cX0_goEndless 12 = .ok (.lstore 5, 2) := by decide +kernel
theorem dX0_goEndless_14 : decode cX0_goEndless 14 = .ok (.lconst 0, 1) := by decide +kernel
theorem dX0_goEndless_15 : decode cX0_goEndless 15 = .ok (.lstore 7, 2) := by decide +kernel
theorem dX0_goEndless_17 : decode cX0_goEndless 17 = .ok (.lconst 0, 1) := by decide +kernel
theorem dX0_goEndless_18 : decode cX0_goEndless 18 = .ok (.lstore 9, 2) := by decide +kernel
theorem dX0_goEndless_20 : decode cX0_goEndless 20 = .ok (.iconst 0, 1) := by decide +kernel
theorem dX0_goEndless_21 : decode cX0_goEndless 21 = .ok (.istore 11, 2) := by decide +kernel
theorem dX0_goEndless_23 : decode cX0_goEndless 23 = .ok (.iload 11, 2) := by decide +kernel
theorem dX0_goEndless_25 : decode cX0_goEndless 25 = .ok (.iload_n 3, 1) := by decide +kernel
theorem dX0_goEndless_26 : decode cX0_goEndless 26 = .ok (.if_icmp .ge 136, 3) := by decide +kernel
theorem dX0_goEndless_29 : decode cX0_goEndless 29 = .ok (.iload_n 2, 1) := by decide +kernel
theorem dX0_goEndless_30 : decode cX0_goEndless 30 = .ok (.iload 11, 2) := by decide +kernel
theorem dX0_goEndless_32 : decode cX0_goEndless 32 = .ok (.iadd, 1) := by decide +kernel
theorem dX0_goEndless_33 : decode cX0_goEndless 33 = .ok (.iload_n 3, 1) := by decide +kernel
theorem dX0_goEndless_34 : decode cX0_goEndless 34 = .ok (.if_icmp .ge 10, 3) := by decide +kernel
theorem dX0_goEndless_37 : decode cX0_goEndless 37 = .ok (.iload_n 2, 1) := by decide +kernel
theorem dX0_goEndless_38 : decode cX0_goEndless 38 = .ok (.iload 11, 2) := by decide +kernel
theorem dX0_goEndless_40 : decode cX0_goEndless 40 = .ok (.iadd, 1) := by decide +kernel
theorem dX0_goEndless_41 : decode cX0_goEndless 41 = .ok (.goto 9, 3) := by decide +kernel
theorem dX0_goEndless_44 : decode cX0_goEndless 44 = .ok (.iload_n 2, 1) := by decide +kernel
theorem dX0_goEndless_45 : decode cX0_goEndless 45 = .ok (.iload 11, 2) := by decide +kernel
theorem dX0_goEndless_47 : decode cX0_goEndless 47 = .ok (.iadd, 1) := by decide +kernel
theorem dX0_goEndless_48 : decode cX0_goEndless 48 = .ok (.iload_n 3, 1) := by decide +kernel
theorem dX0_goEndless_49 : decode cX0_goEndless 49 = .ok (.isub, 1) := by decide +kernel
theorem dX0_goEndless_50 : decode cX0_goEndless 50 = .ok (.istore 12, 2) := by decide +kernel
theorem dX0_goEndless_52 : decode cX0_goEndless 52 = .ok (.aload_n 1, 1) := by decide +kernel
theorem dX0_goEndless_53 : decode cX0_goEndless 53 = .ok (.iload 4, 2) := by decide +kernel
theorem dX0_goEndless_55 : decode cX0_goEndless 55 = .ok (.iload 12, 2) := by decide +kernel
theorem dX0_goEndless_57 : decode cX0_goEndless 57 = .ok (.iconst 0, 1) := by decide +kernel
theorem dX0_goEndless_58 : decode cX0_goEndless 58 = .ok (.invokevirtual 119, 3) := by decide +kernel
theorem dX0_goEndless_61 : decode cX0_goEndless 61 = .ok (.istore 13, 2) := by decide +kernel
theorem dX0_goEndless_63 : decode cX0_goEndless 63 = .ok (.aload_n 1, 1) := by decide +kernel
theorem dX0_goEndless_64 : decode cX0_goEndless 64 = .ok (.iconst 1, 1) := by decide +kernel
theorem dX0_goEndless_65 : decode cX0_goEndless 65 = .ok (.iload 4, 2) := by decide +kernel
theorem dX0_goEndless_67 : decode cX0_goEndless 67 = .ok (.isub, 1) := by decide +kernel
theorem dX0_goEndless_68 : decode cX0_goEndless 68 = .ok (.iload 12, 2) := by decide +kernel
theorem dX0_goEndless_70 : decode cX0_goEndless 70 = .ok (.iconst (-1), 1) := by decide +kernel
theorem dX0_goEndless_71 : decode cX0_goEndless 71 = .ok (.invokevirtual 119, 3) := by decide +kernel
theorem dX0_goEndless_74 : decode cX0_goEndless 74 = .ok (.istore 14, 2) := by decide +kernel
theorem dX0_goEndless_76 : decode cX0_goEndless 76 = .ok (.aload_n 1, 1) := by decide +kernel
theorem dX0_goEndless_77 : decode cX0_goEndless 77 = .ok (.iconst 1, 1) := by decide +kernel
theorem dX0_goEndless_78 : decode cX0_goEndless 78 = .ok (.iload 4, 2) := by decide +kernel
theorem dX0_goEndless_80 : decode cX0_goEndless 80 = .ok (.isub, 1) := by decide +kernel
theorem dX0_goEndless_81 : decode cX0_goEndless 81 = .ok (.iload 12, 2) := by decide +kernel
theorem dX0_goEndless_83 : decode cX0_goEndless 83 = .ok (.iconst 0, 1) := by decide +kernel
theorem dX0_goEndless_84 : decode cX0_goEndless 84 = .ok (.invokevirtual 119, 3) := by decide +kernel
theorem dX0_goEndless_87 : decode cX0_goEndless 87 = .ok (.istore 15, 2) := by decide +kernel
theorem dX0_goEndless_89 : decode cX0_goEndless 89 = .ok (.ldc2_w 123, 3) := by decide +kernel
theorem dX0_goEndless_92 : decode cX0_goEndless 92 = .ok (.lload 7, 2) := by decide +kernel
theorem dX0_goEndless_94 : decode cX0_goEndless 94 = .ok (.lmul, 1) := by decide +kernel
theorem dX0_goEndless_95 : decode cX0_goEndless 95 = .ok (.lload 5, 2) := by decide +kernel
theorem dX0_goEndless_97 : decode cX0_goEndless 97 = .ok (.iload 13, 2) := by decide +kernel
theorem dX0_goEndless_99 : decode cX0_goEndless 99 = .ok (.i2l, 1) := by decide +kernel
theorem dX0_goEndless_100 : decode cX0_goEndless 100 = .ok (.lmul, 1) := by decide +kernel
theorem dX0_goEndless_101 : decode cX0_goEndless 101 = .ok (.bipush 6, 2) := by decide +kernel
theorem dX0_goEndless_103 : decode cX0_goEndless 103 = .ok (.iload 14, 2) := by decide +kernel
theorem dX0_goEndless_105 : decode cX0_goEndless 105 = .ok (.isub, 1) := by decide +kernel
theorem dX0_goEndless_106 : decode cX0_goEndless 106 = .ok (.i2l, 1) := by decide +kernel
theorem dX0_goEndless_107 : decode cX0_goEndless 107 = .ok (.lmul, 1) := by decide +kernel
theorem dX0_goEndless_108 : decode cX0_goEndless 108 = .ok (.ladd, 1) := by decide +kernel
theorem dX0_goEndless_109 : decode cX0_goEndless 109 = .ok (.lstore 7, 2) := by decide +kernel
theorem dX0_goEndless_111 : decode cX0_goEndless 111 = .ok (.ldc2_w 123, 3) := by decide +kernel
theorem dX0_goEndless_114 : decode cX0_goEndless 114 = .ok (.lload 9, 2) := by decide +kernel
theorem dX0_goEndless_116 : decode cX0_goEndless 116 = .ok (.lmul, 1) := by decide +kernel
theorem dX0_goEndless_117 : decode cX0_goEndless 117 = .ok (.lload 5, 2) := by decide +kernel
theorem dX0_goEndless_119 : decode cX0_goEndless 119 = .ok (.bipush 6, 2) := by decide +kernel
theorem dX0_goEndless_121 : decode cX0_goEndless 121 = .ok (.iload 13, 2) := by decide +kernel
theorem dX0_goEndless_123 : decode cX0_goEndless 123 = .ok (.isub, 1) := by decide +kernel
theorem dX0_goEndless_124 : decode cX0_goEndless 124 = .ok (.i2l, 1) := by decide +kernel
theorem dX0_goEndless_125 : decode cX0_goEndless 125 = .ok (.lmul, 1) := by decide +kernel
theorem dX0_goEndless_126 : decode cX0_goEndless 126 = .ok (.iload 15, 2) := by decide +kernel
theorem dX0_goEndless_128 : decode cX0_goEndless 128 = .ok (.i2l, 1) := by decide +kernel
theorem dX0_goEndless_129 : decode cX0_goEndless 129 = .ok (.lmul, 1) := by decide +kernel
theorem dX0_goEndless_130 : decode cX0_goEndless 130 = .ok (.ladd, 1) := by decide +kernel
theorem dX0_goEndless_131 : decode cX0_goEndless 131 = .ok (.lstore 9, 2) := by decide +kernel
theorem dX0_goEndless_133 : decode cX0_goEndless 133 = .ok (.lload 5, 2) := by decide +kernel
theorem dX0_goEndless_135 : decode cX0_goEndless 135 = .ok (.iload 13, 2) := by decide +kernel
theorem dX0_goEndless_137 : decode cX0_goEndless 137 = .ok (.iload 14, 2) := by decide +kernel
theorem dX0_goEndless_139 : decode cX0_goEndless 139 = .ok (.imul, 1) := by decide +kernel
theorem dX0_goEndless_140 : decode cX0_goEndless 140 = .ok (.bipush 6, 2) := by decide +kernel
theorem dX0_goEndless_142 : decode cX0_goEndless 142 = .ok (.iload 13, 2) := by decide +kernel
theorem dX0_goEndless_144 : decode cX0_goEndless 144 = .ok (.isub, 1) := by decide +kernel
theorem dX0_goEndless_145 : decode cX0_goEndless 145 = .ok (.bipush 6, 2) := by decide +kernel
theorem dX0_goEndless_147 : decode cX0_goEndless 147 = .ok (.iload 15, 2) := by decide +kernel
theorem dX0_goEndless_149 : decode cX0_goEndless 149 = .ok (.isub, 1) := by decide +kernel
theorem dX0_goEndless_150 : decode cX0_goEndless 150 = .ok (.imul, 1) := by decide +kernel
theorem dX0_goEndless_151 : decode cX0_goEndless 151 = .ok (.iadd, 1) := by decide +kernel
theorem dX0_goEndless_152 : decode cX0_goEndless 152 = .ok (.i2l, 1) := by decide +kernel
theorem dX0_goEndless_153 : decode cX0_goEndless 153 = .ok (.lmul, 1) := by decide +kernel
theorem dX0_goEndless_154 : decode cX0_goEndless 154 = .ok (.lstore 5, 2) := by decide +kernel
theorem dX0_goEndless_156 : decode cX0_goEndless 156 = .ok (.iinc 11 1, 3) := by decide +kernel
theorem dX0_goEndless_159 : decode cX0_goEndless 159 = .ok (.goto (-136), 3) := by decide +kernel
theorem dX0_goEndless_162 : decode cX0_goEndless 162 = .ok (.aload_n 0, 1) := by decide +kernel
theorem dX0_goEndless_163 : decode cX0_goEndless 163 = .ok (.iconst 2, 1) := by decide +kernel
theorem dX0_goEndless_164 : decode cX0_goEndless 164 = .ok (.iload_n 3, 1) := by decide +kernel
theorem dX0_goEndless_165 : decode cX0_goEndless 165 = .ok (.imul, 1) := by decide +kernel
theorem dX0_goEndless_166 : decode cX0_goEndless 166 = .ok (.invokestatic 95, 3) := by decide +kernel
theorem dX0_goEndless_169 : decode cX0_goEndless 169 = .ok (.lload 5, 2) := by decide +kernel
theorem dX0_goEndless_171 : decode cX0_goEndless 171 = .ok (.lsub, 1) := by decide +kernel
theorem dX0_goEndless_172 : decode cX0_goEndless 172 = .ok (.putfield 77, 3) := by decide +kernel
theorem dX0_goEndless_175 : decode cX0_goEndless 175 = .ok (.aload_n 0, 1) := by decide +kernel
theorem dX0_goEndless_176 : decode cX0_goEndless 176 = .ok (.getfield 77, 3) := by decide +kernel
theorem dX0_goEndless_179 : decode cX0_goEndless 179 = .ok (.lconst 0, 1) := by decide +kernel
theorem dX0_goEndless_180 : decode cX0_goEndless 180 = .ok (.lcmp, 1) := by decide +kernel
theorem dX0_goEndless_181 : decode cX0_goEndless 181 = .ok (.ifCond .gt 8, 3) := by decide +kernel
theorem dX0_goEndless_184 : decode cX0_goEndless 184 = .ok (.aload_n 0, 1) := by decide +kernel
theorem dX0_goEndless_185 : decode cX0_goEndless 185 = .ok (.lconst 1, 1) := by decide +kernel
theorem dX0_goEndless_186 : decode cX0_goEndless 186 = .ok (.putfield 77, 3) := by decide +kernel
theorem dX0_goEndless_189 : decode cX0_goEndless 189 = .ok (.aload_n 0, 1) := by decide +kernel
theorem dX0_goEndless_190 : decode cX0_goEndless 190 = .ok (.iload 4, 2) := by decide +kernel
theorem dX0_goEndless_192 : decode cX0_goEndless 192 = .ok (.ifCond .ne 8, 3) := by decide +kernel
theorem dX0_goEndless_195 : decode cX0_goEndless 195 = .ok (.lload 7, 2) := by decide +kernel
theorem dX0_goEndless_197 : decode cX0_goEndless 197 = .ok (.goto 5, 3) := by decide +kernel
theorem dX0_goEndless_200 : decode cX0_goEndless 200 = .ok (.lload 9, 2) := by decide +kernel
theorem dX0_goEndless_202 : decode cX0_goEndless 202 = .ok (.putfield 83, 3) := by decide +kernel
theorem dX0_goEndless_205 : decode cX0_goEndless 205 = .ok (.aload_n 0, 1) := by decide +kernel
theorem dX0_goEndless_206 : decode cX0_goEndless 206 = .ok (.iload 4, 2) := by decide +kernel
theorem dX0_goEndless_208 : decode cX0_goEndless 208 = .ok (.ifCond .ne 8, 3) := by decide +kernel
theorem dX0_goEndless_211 : decode cX0_goEndless 211 = .ok (.lload 9, 2) := by decide +kernel
theorem dX0_goEndless_213 : decode cX0_goEndless 213 = .ok (.goto 5, 3) := by decide +kernel
theorem dX0_goEndless_216 : decode cX0_goEndless 216 = .ok (.lload 7, 2) := by decide +kernel
theorem dX0_goEndless_218 : decode cX0_goEndless 218 = .ok (.putfield 89, 3) := by decide +kernel
theorem dX0_goEndless_221 : decode cX0_goEndless 221 = .ok (.return_, 1) := by decide +kernel
theorem dX0_run_0 : decode cX0_run 0 = .ok (.aload_n 0, 1) := by decide +kernel
theorem dX0_run_1 : decode cX0_run 1 = .ok (.iload_n 2, 1) := by decide +kernel
theorem dX0_run_2 : decode cX0_run 2 = .ok (.putfield 125, 3) := by decide +kernel
theorem dX0_run_5 : decode cX0_run 5 = .ok (.aload_n 0, 1) := by decide +kernel
theorem dX0_run_6 : decode cX0_run 6 = .ok (.iconst 2, 1) := by decide +kernel
theorem dX0_run_7 : decode cX0_run 7 = .ok (.aload_n 1, 1) := by decide +kernel
theorem dX0_run_8 : decode cX0_run 8 = .ok (.getfield 64, 3) := by decide +kernel
theorem dX0_run_11 : decode cX0_run 11 = .ok (.imul, 1) := by decide +kernel
theorem dX0_run_12 : decode cX0_run 12 = .ok (.putfield 92, 3) := by decide +kernel
theorem dX0_run_15 : decode cX0_run 15 = .ok (.aload_n 0, 1) := by decide +kernel
theorem dX0_run_16 : decode cX0_run 16 = .ok (.invokevirtual 128, 3) := by decide +kernel
theorem dX0_run_19 : decode cX0_run 19 = .ok (.aload_n 1, 1) := by decide +kernel
theorem dX0_run_20 : decode cX0_run 20 = .ok (.getfield 60, 3) := by decide +kernel
theorem dX0_run_23 : decode cX0_run 23 = .ok (.istore_n 3, 1) := by decide +kernel
theorem dX0_run_24 : decode cX0_run 24 = .ok (.iload_n 3, 1) := by decide +kernel
theorem dX0_run_25 : decode cX0_run 25 = .ok (.aload_n 0, 1) := by decide +kernel
theorem dX0_run_26 : decode cX0_run 26 = .ok (.getfield 92, 3) := by decide +kernel
theorem dX0_run_29 : decode cX0_run 29 = .ok (.if_icmp .lt 4, 3) := by decide +kernel
theorem dX0_run_32 : decode cX0_run 32 = .ok (.return_, 1) := by decide +kernel
theorem dX0_run_33 : decode cX0_run 33 = .ok (.aload_n 1, 1) := by decide +kernel
theorem dX0_run_34 : decode cX0_run 34 = .ok (.invokevirtual 111, 3) := by decide +kernel
theorem dX0_run_37 : decode cX0_run 37 = .ok (.istore 4, 2) := by decide +kernel
theorem dX0_run_39 : decode cX0_run 39 = .ok (.aload_n 0, 1) := by decide +kernel
theorem dX0_run_40 : decode cX0_run 40 = .ok (.getfield 18, 3) := by decide +kernel
theorem dX0_run_43 : decode cX0_run 43 = .ok (.iconst 0, 1) := by decide +kernel
theorem dX0_run_44 : decode cX0_run 44 = .ok (.iload 4, 2) := by decide +kernel
theorem dX0_run_46 : decode cX0_run 46 = .ok (.aload_n 1, 1) := by decide +kernel
theorem dX0_run_47 : decode cX0_run 47 = .ok (.invokevirtual 131, 3) := by decide +kernel
theorem dX0_run_50 : decode cX0_run 50 = .ok (.invokestatic 134, 3) := by decide +kernel
theorem dX0_run_53 : decode cX0_run 53 = .ok (.lconst 1, 1) := by decide +kernel
theorem dX0_run_54 : decode cX0_run 54 = .ok (.invokestatic 137, 3) := by decide +kernel
theorem dX0_run_57 : decode cX0_run 57 = .ok (.aload_n 1, 1) := by decide +kernel
theorem dX0_run_58 : decode cX0_run 58 = .ok (.getfield 64, 3) := by decide +kernel
theorem dX0_run_61 : decode cX0_run 61 = .ok (.istore 5, 2) := by decide +kernel
theorem dX0_run_63 : decode cX0_run 63 = .ok (.iload_n 3, 1) := by decide +kernel
theorem dX0_run_64 : decode cX0_run 64 = .ok (.istore 6, 2) := by decide +kernel
theorem dX0_run_66 : decode cX0_run 66 = .ok (.iload 6, 2) := by decide +kernel
theorem dX0_run_68 : decode cX0_run 68 = .ok (.aload_n 0, 1) := by decide +kernel
theorem dX0_run_69 : decode cX0_run 69 = .ok (.getfield 92, 3) := by decide +kernel
theorem dX0_run_72 : decode cX0_run 72 = .ok (.if_icmp .ge 120, 3) := by decide +kernel
theorem dX0_run_75 : decode cX0_run 75 = .ok (.iload 5, 2) := by decide +kernel
theorem dX0_run_77 : decode cX0_run 77 = .ok (.ineg, 1) := by decide +kernel
theorem dX0_run_78 : decode cX0_run 78 = .ok (.iload 4, 2) := by decide +kernel
theorem dX0_run_80 : decode cX0_run 80 = .ok (.iload 6, 2) := by decide +kernel
theorem dX0_run_82 : decode cX0_run 82 = .ok (.iload_n 3, 1) := by decide +kernel
theorem dX0_run_83 : decode cX0_run 83 = .ok (.isub, 1) := by decide +kernel
theorem dX0_run_84 : decode cX0_run 84 = .ok (.isub, 1) := by decide +kernel
theorem dX0_run_85 : decode cX0_run 85 = .ok (.invokestatic 141, 3) := by decide +kernel
theorem dX0_run_88 : decode cX0_run 88 = .ok (.istore 7, 2) := by decide +kernel
theorem dX0_run_90 : decode cX0_run 90 = .ok (.iload 5, 2) := by decide +kernel
theorem dX0_run_92 : decode cX0_run 92 = .ok (.iload 4, 2) := by decide +kernel
theorem dX0_run_94 : decode cX0_run 94 = .ok (.iload 6, 2) := by decide +kernel
theorem dX0_run_96 : decode cX0_run 96 = .ok (.iload_n 3, 1) := by decide +kernel
theorem dX0_run_97 : decode cX0_run 97 = .ok (.isub, 1) := by decide +kernel
theorem dX0_run_98 : decode cX0_run 98 = .ok (.iadd, 1) := by decide +kernel
theorem dX0_run_99 : decode cX0_run 99 = .ok (.invokestatic 147, 3) := by decide +kernel
theorem dX0_run_102 : decode cX0_run 102 = .ok (.istore 8, 2) := by decide +kernel
theorem dX0_run_104 : decode cX0_run 104 = .ok (.iconst 0, 1) := by decide +kernel
theorem dX0_run_105 : decode cX0_run 105 = .ok (.istore 9, 2) := by decide +kernel
theorem dX0_run_107 : decode cX0_run 107 = .ok (.iload 9, 2) := by decide +kernel
theorem dX0_run_109 : decode cX0_run 109 = .ok (.aload_n 0, 1) := by decide +kernel
theorem dX0_run_110 : decode cX0_run 110 = .ok (.getfield 125, 3) := by decide +kernel
theorem dX0_run_113 : decode cX0_run 113 = .ok (.iload 5, 2) := by decide +kernel
theorem dX0_run_115 : decode cX0_run 115 = .ok (.imul, 1) := by decide +kernel
theorem dX0_run_116 : decode cX0_run 116 = .ok (.if_icmp .gt 50, 3) := by decide +kernel
theorem dX0_run_119 : decode cX0_run 119 = .ok (.iload 7, 2) := by decide +kernel
theorem dX0_run_121 : decode cX0_run 121 = .ok (.istore 10, 2) := by decide +kernel
theorem dX0_run_123 : decode cX0_run 123 = .ok (.iload 10, 2) := by decide +kernel
theorem dX0_run_125 : decode cX0_run 125 = .ok (.iload 8, 2) := by decide +kernel
theorem dX0_run_127 : decode cX0_run 127 = .ok (.if_icmp .gt 33, 3) := by decide +kernel
theorem dX0_run_130 : decode cX0_run 130 = .ok (.aload_n 0, 1) := by decide +kernel
theorem dX0_run_131 : decode cX0_run 131 = .ok (.aload_n 1, 1) := by decide +kernel
theorem dX0_run_132 : decode cX0_run 132 = .ok (.iload 6, 2) := by decide +kernel
theorem dX0_run_134 : decode cX0_run 134 = .ok (.iload 9, 2) := by decide +kernel
theorem dX0_run_136 : decode cX0_run 136 = .ok (.iload 10, 2) := by decide +kernel
theorem dX0_run_138 : decode cX0_run 138 = .ok (.iconst 0, 1) := by decide +kernel
theorem dX0_run_139 : decode cX0_run 139 = .ok (.invokevirtual 150, 3) := by decide +kernel
theorem dX0_run_142 : decode cX0_run 142 = .ok (.aload_n 0, 1) := by decide +kernel
theorem dX0_run_143 : decode cX0_run 143 = .ok (.aload_n 1, 1) := by decide +kernel
theorem dX0_run_144 : decode cX0_run 144 = .ok (.iload 6, 2) := by decide +kernel
theorem dX0_run_146 : decode cX0_run 146 = .ok (.iload 9, 2) := by decide +kernel
theorem dX0_run_148 : decode cX0_run 148 = .ok (.iload 10, 2) := by decide +kernel
theorem dX0_run_150 : decode cX0_run 150 = .ok (.iconst 1, 1) := by decide +kernel
theorem dX0_run_151 : decode cX0_run 151 = .ok (.invokevirtual 150, 3) := by decide +kernel
theorem dX0_run_154 : decode cX0_run 154 = .ok (.iinc 10 1, 3) := by decide +kernel
theorem dX0_run_157 : decode cX0_run 157 = .ok (.goto (-34), 3) := by decide +kernel
theorem dX0_run_160 : decode cX0_run 160 = .ok (.iinc 9 1, 3) := by decide +kernel
theorem dX0_run_163 : decode cX0_run 163 = .ok (.goto (-56), 3) := by decide +kernel
theorem dX0_run_166 : decode cX0_run 166 = .ok (.aload_n 0, 1) := by decide +kernel
theorem dX0_run_167 : decode cX0_run 167 = .ok (.getfield 18, 3) := by decide +kernel
theorem dX0_run_170 : decode cX0_run 170 = .ok (.astore 9, 2) := by decide +kernel
theorem dX0_run_172 : decode cX0_run 172 = .ok (.aload_n 0, 1) := by decide +kernel
theorem dX0_run_173 : decode cX0_run 173 = .ok (.aload_n 0, 1) := by decide +kernel
theorem dX0_run_174 : decode cX0_run 174 = .ok (.getfield 21, 3) := by decide +kernel
theorem dX0_run_177 : decode cX0_run 177 = .ok (.putfield 18, 3) := by decide +kernel
theorem dX0_run_180 : decode cX0_run 180 = .ok (.aload_n 0, 1) := by decide +kernel
theorem dX0_run_181 : decode cX0_run 181 = .ok (.aload 9, 2) := by decide +kernel
theorem dX0_run_183 : decode cX0_run 183 = .ok (.putfield 21, 3) := by decide +kernel
theorem dX0_run_186 : decode cX0_run 186 = .ok (.iinc 6 1, 3) := by decide +kernel
theorem dX0_run_189 : decode cX0_run 189 = .ok (.goto (-123), 3) := by decide +kernel
theorem dX0_run_192 : decode cX0_run 192 = .ok (.return_, 1) := by decide +kernel
theorem dX0_clear_0 : decode cX0_clear 0 = .ok (.aload_n 0, 1) := by decide +kernel
theorem dX0_clear_1 : decode cX0_clear 1 = .ok (.lconst 0, 1) := by decide +kernel
theorem dX0_clear_2 : decode cX0_clear 2 = .ok (.putfield 74, 3) := by decide +kernel
theorem dX0_clear_5 : decode cX0_clear 5 = .ok (.aload_n 0, 1) := by decide +kernel
theorem dX0_clear_6 : decode cX0_clear 6 = .ok (.lconst 0, 1) := by decide +kernel
theorem dX0_clear_7 : decode cX0_clear 7 = .ok (.putfield 86, 3) := by decide +kernel
theorem dX0_clear_10 : decode cX0_clear 10 = .ok (.aload_n 0, 1) := by decide +kernel
theorem dX0_clear_11 : decode cX0_clear 11 = .ok (.lconst 0, 1) := by decide +kernel
theorem dX0_clear_12 : decode cX0_clear 12 = .ok (.putfield 80, 3) := by decide +kernel
theorem dX0_clear_15 : decode cX0_clear 15 = .ok (.iconst 0, 1) := by decide +kernel
theorem dX0_clear_16 : decode cX0_clear 16 = .ok (.istore_n 1, 1) := by decide +kernel
theorem dX0_clear_17 : decode cX0_clear 17 = .ok (.iload_n 1, 1) := by decide +kernel
theorem dX0_clear_18 : decode cX0_clear 18 = .ok (.aload_n 0, 1) := by decide +kernel
theorem dX0_clear_19 : decode cX0_clear 19 = .ok (.getfield 9, 3) := by decide +kernel
theorem dX0_clear_22 : decode cX0_clear 22 = .ok (.arraylength, 1) := by decide +kernel
theorem dX0_clear_23 : decode cX0_clear 23 = .ok (.if_icmp .ge 16, 3) := by decide +kernel
theorem dX0_clear_26 : decode cX0_clear 26 = .ok (.aload_n 0, 1) := by decide +kernel
theorem dX0_clear_27 : decode cX0_clear 27 = .ok (.getfield 9, 3) := by decide +kernel
theorem dX0_clear_30 : decode cX0_clear 30 = .ok (.iload_n 1, 1) := by decide +kernel
theorem dX0_clear_31 : decode cX0_clear 31 = .ok (.lconst 0, 1) := by decide +kernel
theorem dX0_clear_32 : decode cX0_clear 32 = .ok (.lastore, 1) := by decide +kernel
theorem dX0_clear_33 : decode cX0_clear 33 = .ok (.iinc 1 1, 3) := by decide +kernel
theorem dX0_clear_36 : decode cX0_clear 36 = .ok (.goto (-19), 3) := by decide +kernel
theorem dX0_clear_39 : decode cX0_clear 39 = .ok (.iconst 0, 1) := by decide +kernel
theorem dX0_clear_40 : decode cX0_clear 40 = .ok (.istore_n 1, 1) := by decide +kernel
theorem dX0_clear_41 : decode cX0_clear 41 = .ok (.iload_n 1, 1) := by decide +kernel
theorem dX0_clear_42 : decode cX0_clear 42 = .ok (.aload_n 0, 1) := by decide +kernel
theorem dX0_clear_43 : decode cX0_clear 43 = .ok (.getfield 15, 3) := by decide +kernel
theorem dX0_clear_46 : decode cX0_clear 46 = .ok (.arraylength, 1) := by decide +kernel
theorem dX0_clear_47 : decode cX0_clear 47 = .ok (.if_icmp .ge 23, 3) := by decide +kernel
theorem dX0_clear_50 : decode cX0_clear 50 = .ok (.aload_n 0, 1) := by decide +kernel
theorem dX0_clear_51 : decode cX0_clear 51 = .ok (.getfield 125, 3) := by decide +kernel
theorem dX0_clear_54 : decode cX0_clear 54 = .ok (.ifCond .le 16, 3) := by decide +kernel
theorem dX0_clear_57 : decode cX0_clear 57 = .ok (.aload_n 0, 1) := by decide +kernel
theorem dX0_clear_58 : decode cX0_clear 58 = .ok (.getfield 15, 3) := by decide +kernel
theorem dX0_clear_61 : decode cX0_clear 61 = .ok (.iload_n 1, 1) := by decide +kernel
theorem dX0_clear_62 : decode cX0_clear 62 = .ok (.lconst 0, 1) := by decide +kernel
theorem dX0_clear_63 : decode cX0_clear 63 = .ok (.lastore, 1) := by decide +kernel
theorem dX0_clear_64 : decode cX0_clear 64 = .ok (.iinc 1 1, 3) := by decide +kernel
theorem dX0_clear_67 : decode cX0_clear 67 = .ok (.goto (-26), 3) := by decide +kernel
theorem dX0_clear_70 : decode cX0_clear 70 = .ok (.return_, 1) := by decide +kernel
theorem dX0_at_0 : decode cX0_at 0 = .ok (.iload_n 0, 1) := by decide +kernel
theorem dX0_at_1 : decode cX0_at 1 = .ok (.bipush 11, 2) := by decide +kernel
theorem dX0_at_3 : decode cX0_at 3 = .ok (.imul, 1) := by decide +kernel
theorem dX0_at_4 : decode cX0_at 4 = .ok (.iload_n 1, 1) := by decide +kernel
theorem dX0_at_5 : decode cX0_at 5 = .ok (.iadd, 1) := by decide +kernel
theorem dX0_at_6 : decode cX0_at 6 = .ok (.iconst 5, 1) := by decide +kernel
theorem dX0_at_7 : decode cX0_at 7 = .ok (.iadd, 1) := by decide +kernel
theorem dX0_at_8 : decode cX0_at 8 = .ok (.iconst 2, 1) := by decide +kernel
theorem dX0_at_9 : decode cX0_at 9 = .ok (.imul, 1) := by decide +kernel
theorem dX0_at_10 : decode cX0_at 10 = .ok (.iload_n 2, 1) := by decide +kernel
theorem dX0_at_11 : decode cX0_at 11 = .ok (.iadd, 1) := by decide +kernel
theorem dX0_at_12 : decode cX0_at 12 = .ok (.ireturn, 1) := by decide +kernel
theorem dX0_add_0 : decode cX0_add 0 = .ok (.iload_n 1, 1) := by decide +kernel
theorem dX0_add_1 : decode cX0_add 1 = .ok (.ifCond .lt 16, 3) := by decide +kernel
theorem dX0_add_4 : decode cX0_add 4 = .ok (.iload_n 1, 1) := by decide +kernel
theorem dX0_add_5 : decode cX0_add 5 = .ok (.aload_n 0, 1) := by decide +kernel
theorem dX0_add_6 : decode cX0_add 6 = .ok (.arraylength, 1) := by decide +kernel
theorem dX0_add_7 : decode cX0_add 7 = .ok (.if_icmp .ge 10, 3) := by decide +kernel
theorem dX0_add_10 : decode cX0_add 10 = .ok (.aload_n 0, 1) := by decide +kernel
theorem dX0_add_11 : decode cX0_add 11 = .ok (.iload_n 1, 1) := by decide +kernel
theorem dX0_add_12 : decode cX0_add 12 = .ok (.dup2, 1) := by decide +kernel
theorem dX0_add_13 : decode cX0_add 13 = .ok (.laload, 1) := by decide +kernel
theorem dX0_add_14 : decode cX0_add 14 = .ok (.lload_n 2, 1) := by decide +kernel
theorem dX0_add_15 : decode cX0_add 15 = .ok (.ladd, 1) := by decide +kernel
theorem dX0_add_16 : decode cX0_add 16 = .ok (.lastore, 1) := by decide +kernel
theorem dX0_add_17 : decode cX0_add 17 = .ok (.return_, 1) := by decide +kernel
theorem dX0_addScore_0 : decode cX0_addScore 0 = .ok (.aload_n 0, 1) := by decide +kernel
theorem dX0_addScore_1 : decode cX0_addScore 1 = .ok (.getfield 125, 3) := by decide +kernel
theorem dX0_addScore_4 : decode cX0_addScore 4 = .ok (.ifCond .le 19, 3) := by decide +kernel
theorem dX0_addScore_7 : decode cX0_addScore 7 = .ok (.aload_n 0, 1) := by decide +kernel
theorem dX0_addScore_8 : decode cX0_addScore 8 = .ok (.getfield 15, 3) := by decide +kernel
theorem dX0_addScore_11 : decode cX0_addScore 11 = .ok (.iload_n 1, 1) := by decide +kernel
theorem dX0_addScore_12 : decode cX0_addScore 12 = .ok (.bipush 6, 2) := by decide +kernel
theorem dX0_addScore_14 : decode cX0_addScore 14 = .ok (.imul, 1) := by decide +kernel
theorem dX0_addScore_15 : decode cX0_addScore 15 = .ok (.iload_n 1, 1) := by decide +kernel
theorem dX0_addScore_16 : decode cX0_addScore 16 = .ok (.iadd, 1) := by decide +kernel
theorem dX0_addScore_17 : decode cX0_addScore 17 = .ok (.iload_n 2, 1) := by decide +kernel
theorem dX0_addScore_18 : decode cX0_addScore 18 = .ok (.isub, 1) := by decide +kernel
theorem dX0_addScore_19 : decode cX0_addScore 19 = .ok (.lload_n 3, 1) := by decide +kernel
theorem dX0_addScore_20 : decode cX0_addScore 20 = .ok (.invokestatic 137, 3) := by decide +kernel
theorem dX0_addScore_23 : decode cX0_addScore 23 = .ok (.return_, 1) := by decide +kernel
theorem dX0_leave_0 : decode cX0_leave 0 = .ok (.iload_n 3, 1) := by decide +kernel
theorem dX0_leave_1 : decode cX0_leave 1 = .ok (.iload 4, 2) := by decide +kernel
theorem dX0_leave_3 : decode cX0_leave 3 = .ok (.iload 5, 2) := by decide +kernel
theorem dX0_leave_5 : decode cX0_leave 5 = .ok (.invokestatic 134, 3) := by decide +kernel
theorem dX0_leave_8 : decode cX0_leave 8 = .ok (.istore 6, 2) := by decide +kernel
theorem dX0_leave_10 : decode cX0_leave 10 = .ok (.iload 6, 2) := by decide +kernel
theorem dX0_leave_12 : decode cX0_leave 12 = .ok (.ifCond .lt 25, 3) := by decide +kernel
theorem dX0_leave_15 : decode cX0_leave 15 = .ok (.iload 6, 2) := by decide +kernel
theorem dX0_leave_17 : decode cX0_leave 17 = .ok (.aload_n 0, 1) := by decide +kernel
theorem dX0_leave_18 : decode cX0_leave 18 = .ok (.getfield 18, 3) := by decide +kernel
theorem dX0_leave_21 : decode cX0_leave 21 = .ok (.arraylength, 1) := by decide +kernel
theorem dX0_leave_22 : decode cX0_leave 22 = .ok (.if_icmp .ge 15, 3) := by decide +kernel
theorem dX0_leave_25 : decode cX0_leave 25 = .ok (.aload_n 0, 1) := by decide +kernel
theorem dX0_leave_26 : decode cX0_leave 26 = .ok (.getfield 18, 3) := by decide +kernel
theorem dX0_leave_29 : decode cX0_leave 29 = .ok (.iload 6, 2) := by decide +kernel
theorem dX0_leave_31 : decode cX0_leave 31 = .ok (.laload, 1) := by decide +kernel
theorem dX0_leave_32 : decode cX0_leave 32 = .ok (.lconst 0, 1) := by decide +kernel
theorem dX0_leave_33 : decode cX0_leave 33 = .ok (.lcmp, 1) := by decide +kernel
theorem dX0_leave_34 : decode cX0_leave 34 = .ok (.ifCond .ne 4, 3) := by decide +kernel
theorem dX0_leave_37 : decode cX0_leave 37 = .ok (.return_, 1) := by decide +kernel
theorem dX0_leave_38 : decode cX0_leave 38 = .ok (.aload_n 0, 1) := by decide +kernel
theorem dX0_leave_39 : decode cX0_leave 39 = .ok (.getfield 18, 3) := by decide +kernel
theorem dX0_leave_42 : decode cX0_leave 42 = .ok (.iload 6, 2) := by decide +kernel
theorem dX0_leave_44 : decode cX0_leave 44 = .ok (.laload, 1) := by decide +kernel
theorem dX0_leave_45 : decode cX0_leave 45 = .ok (.lstore 7, 2) := by decide +kernel
theorem dX0_leave_47 : decode cX0_leave 47 = .ok (.aload_n 0, 1) := by decide +kernel
theorem dX0_leave_48 : decode cX0_leave 48 = .ok (.getfield 18, 3) := by decide +kernel
theorem dX0_leave_51 : decode cX0_leave 51 = .ok (.iload 6, 2) := by decide +kernel
theorem dX0_leave_53 : decode cX0_leave 53 = .ok (.lconst 0, 1) := by decide +kernel
theorem dX0_leave_54 : decode cX0_leave 54 = .ok (.lastore, 1) := by decide +kernel
theorem dX0_leave_55 : decode cX0_leave 55 = .ok (.iload_n 2, 1) := by decide +kernel
theorem dX0_leave_56 : decode cX0_leave 56 = .ok (.iconst 2, 1) := by decide +kernel
theorem dX0_leave_57 : decode cX0_leave 57 = .ok (.irem, 1) := by decide +kernel
theorem dX0_leave_58 : decode cX0_leave 58 = .ok (.ifCond .ne 8, 3) := by decide +kernel
theorem dX0_leave_61 : decode cX0_leave 61 = .ok (.iload 5, 2) := by decide +kernel
theorem dX0_leave_63 : decode cX0_leave 63 = .ok (.goto 7, 3) := by decide +kernel
theorem dX0_leave_66 : decode cX0_leave 66 = .ok (.iconst 1, 1) := by decide +kernel
theorem dX0_leave_67 : decode cX0_leave 67 = .ok (.iload 5, 2) := by decide +kernel
theorem dX0_leave_69 : decode cX0_leave 69 = .ok (.isub, 1) := by decide +kernel
theorem dX0_leave_70 : decode cX0_leave 70 = .ok (.istore 9, 2) := by decide +kernel
theorem dX0_leave_72 : decode cX0_leave 72 = .ok (.aload_n 1, 1) := by decide +kernel
theorem dX0_leave_73 : decode cX0_leave 73 = .ok (.iload 9, 2) := by decide +kernel
theorem dX0_leave_75 : decode cX0_leave 75 = .ok (.iload_n 2, 1) := by decide +kernel
theorem dX0_leave_76 : decode cX0_leave 76 = .ok (.iconst 2, 1) := by decide +kernel
theorem dX0_leave_77 : decode cX0_leave 77 = .ok (.idiv, 1) := by decide +kernel
theorem dX0_leave_78 : decode cX0_leave 78 = .ok (.iload 9, 2) := by decide +kernel
theorem dX0_leave_80 : decode cX0_leave 80 = .ok (.ifCond .ne 8, 3) := by decide +kernel
theorem dX0_leave_83 : decode cX0_leave 83 = .ok (.iload 4, 2) := by decide +kernel
theorem dX0_leave_85 : decode cX0_leave 85 = .ok (.goto 6, 3) := by decide +kernel
theorem dX0_leave_88 : decode cX0_leave 88 = .ok (.iload 4, 2) := by decide +kernel
theorem dX0_leave_90 : decode cX0_leave 90 = .ok (.ineg, 1) := by decide +kernel
theorem dX0_leave_91 : decode cX0_leave 91 = .ok (.invokevirtual 119, 3) := by decide +kernel
theorem dX0_leave_94 : decode cX0_leave 94 = .ok (.istore 10, 2) := by decide +kernel
theorem dX0_leave_96 : decode cX0_leave 96 = .ok (.iload 10, 2) := by decide +kernel
theorem dX0_leave_98 : decode cX0_leave 98 = .ok (.ifCond .le 58, 3) := by decide +kernel
theorem dX0_leave_101 : decode cX0_leave 101 = .ok (.iload 9, 2) := by decide +kernel
theorem dX0_leave_103 : decode cX0_leave 103 = .ok (.ifCond .ne 12, 3) := by decide +kernel
theorem dX0_leave_106 : decode cX0_leave 106 = .ok (.iload_n 3, 1) := by decide +kernel
theorem dX0_leave_107 : decode cX0_leave 107 = .ok (.aload_n 0, 1) := by decide +kernel
theorem dX0_leave_108 : decode cX0_leave 108 = .ok (.getfield 125, 3) := by decide +kernel
theorem dX0_leave_111 : decode cX0_leave 111 = .ok (.iadd, 1) := by decide +kernel
theorem dX0_leave_112 : decode cX0_leave 112 = .ok (.goto 4, 3) := by decide +kernel
theorem dX0_leave_115 : decode cX0_leave 115 = .ok (.iload_n 3, 1) := by decide +kernel
theorem dX0_leave_116 : decode cX0_leave 116 = .ok (.istore 11, 2) := by decide +kernel
theorem dX0_leave_118 : decode cX0_leave 118 = .ok (.iload 9, 2) := by decide +kernel
theorem dX0_leave_120 : decode cX0_leave 120 = .ok (.ifCond .ne 10, 3) := by decide +kernel
theorem dX0_leave_123 : decode cX0_leave 123 = .ok (.iload 4, 2) := by decide +kernel
theorem dX0_leave_125 : decode cX0_leave 125 = .ok (.iconst 1, 1) := by decide +kernel
theorem dX0_leave_126 : decode cX0_leave 126 = .ok (.iadd, 1) := by decide +kernel
theorem dX0_leave_127 : decode cX0_leave 127 = .ok (.goto 7, 3) := by decide +kernel
theorem dX0_leave_130 : decode cX0_leave 130 = .ok (.iload 4, 2) := by decide +kernel
theorem dX0_leave_132 : decode cX0_leave 132 = .ok (.iconst 1, 1) := by decide +kernel
theorem dX0_leave_133 : decode cX0_leave 133 = .ok (.isub, 1) := by decide +kernel
theorem dX0_leave_134 : decode cX0_leave 134 = .ok (.istore 12, 2) := by decide +kernel
theorem dX0_leave_136 : decode cX0_leave 136 = .ok (.aload_n 0, 1) := by decide +kernel
theorem dX0_leave_137 : decode cX0_leave 137 = .ok (.aload_n 1, 1) := by decide +kernel
theorem dX0_leave_138 : decode cX0_leave 138 = .ok (.iload_n 2, 1) := by decide +kernel
theorem dX0_leave_139 : decode cX0_leave 139 = .ok (.iconst 1, 1) := by decide +kernel
theorem dX0_leave_140 : decode cX0_leave 140 = .ok (.iadd, 1) := by decide +kernel
theorem dX0_leave_141 : decode cX0_leave 141 = .ok (.iload 11, 2) := by decide +kernel
theorem dX0_leave_143 : decode cX0_leave 143 = .ok (.iload 12, 2) := by decide +kernel
theorem dX0_leave_145 : decode cX0_leave 145 = .ok (.iload 5, 2) := by decide +kernel
theorem dX0_leave_147 : decode cX0_leave 147 = .ok (.lload 7, 2) := by decide +kernel
theorem dX0_leave_149 : decode cX0_leave 149 = .ok (.iload 10, 2) := by decide +kernel
theorem dX0_leave_151 : decode cX0_leave 151 = .ok (.i2l, 1) := by decide +kernel
theorem dX0_leave_152 : decode cX0_leave 152 = .ok (.lmul, 1) := by decide +kernel
theorem dX0_leave_153 : decode cX0_leave 153 = .ok (.invokevirtual 154, 3) := by decide +kernel
theorem dX0_leave_156 : decode cX0_leave 156 = .ok (.iload 10, 2) := by decide +kernel
theorem dX0_leave_158 : decode cX0_leave 158 = .ok (.bipush 6, 2) := by decide +kernel
theorem dX0_leave_160 : decode cX0_leave 160 = .ok (.if_icmp .ge 25, 3) := by decide +kernel
theorem dX0_leave_163 : decode cX0_leave 163 = .ok (.aload_n 0, 1) := by decide +kernel
theorem dX0_leave_164 : decode cX0_leave 164 = .ok (.aload_n 1, 1) := by decide +kernel
theorem dX0_leave_165 : decode cX0_leave 165 = .ok (.iload_n 2, 1) := by decide +kernel
theorem dX0_leave_166 : decode cX0_leave 166 = .ok (.iconst 1, 1) := by decide +kernel
theorem dX0_leave_167 : decode cX0_leave 167 = .ok (.iadd, 1) := by decide +kernel
theorem dX0_leave_168 : decode cX0_leave 168 = .ok (.iload_n 3, 1) := by decide +kernel
theorem dX0_leave_169 : decode cX0_leave 169 = .ok (.iload 4, 2) := by decide +kernel
theorem dX0_leave_171 : decode cX0_leave 171 = .ok (.iload 5, 2) := by decide +kernel
theorem dX0_leave_173 : decode cX0_leave 173 = .ok (.lload 7, 2) := by decide +kernel
theorem dX0_leave_175 : decode cX0_leave 175 = .ok (.bipush 6, 2) := by decide +kernel
theorem dX0_leave_177 : decode cX0_leave 177 = .ok (.iload 10, 2) := by decide +kernel
theorem dX0_leave_179 : decode cX0_leave 179 = .ok (.isub, 1) := by decide +kernel
theorem dX0_leave_180 : decode cX0_leave 180 = .ok (.i2l, 1) := by decide +kernel
theorem dX0_leave_181 : decode cX0_leave 181 = .ok (.lmul, 1) := by decide +kernel
theorem dX0_leave_182 : decode cX0_leave 182 = .ok (.invokevirtual 154, 3) := by decide +kernel
theorem dX0_leave_185 : decode cX0_leave 185 = .ok (.return_, 1) := by decide +kernel
theorem dX0_arrive_0 : decode cX0_arrive 0 = .ok (.aload_n 1, 1) := by decide +kernel
theorem dX0_arrive_1 : decode cX0_arrive 1 = .ok (.iload_n 2, 1) := by decide +kernel
theorem dX0_arrive_2 : decode cX0_arrive 2 = .ok (.iload 4, 2) := by decide +kernel
theorem dX0_arrive_4 : decode cX0_arrive 4 = .ok (.iload 5, 2) := by decide +kernel
theorem dX0_arrive_6 : decode cX0_arrive 6 = .ok (.invokevirtual 158, 3) := by decide +kernel
theorem dX0_arrive_9 : decode cX0_arrive 9 = .ok (.ifCond .eq 79, 3) := by decide +kernel
theorem dX0_arrive_12 : decode cX0_arrive 12 = .ok (.lload 6, 2) := by decide +kernel
theorem dX0_arrive_14 : decode cX0_arrive 14 = .ok (.aload_n 0, 1) := by decide +kernel
theorem dX0_arrive_15 : decode cX0_arrive 15 = .ok (.getfield 92, 3) := by decide +kernel
theorem dX0_arrive_18 : decode cX0_arrive 18 = .ok (.iload_n 2, 1) := by decide +kernel
theorem dX0_arrive_19 : decode cX0_arrive 19 = .ok (.isub, 1) := by decide +kernel
theorem dX0_arrive_20 : decode cX0_arrive 20 = .ok (.invokestatic 95, 3) := by decide +kernel
theorem dX0_arrive_23 : decode cX0_arrive 23 = .ok (.lmul, 1) := by decide +kernel
theorem dX0_arrive_24 : decode cX0_arrive 24 = .ok (.lstore 8, 2) := by decide +kernel
theorem dX0_arrive_26 : decode cX0_arrive 26 = .ok (.aload_n 0, 1) := by decide +kernel
theorem dX0_arrive_27 : decode cX0_arrive 27 = .ok (.dup, 1) := by decide +kernel
theorem dX0_arrive_28 : decode cX0_arrive 28 = .ok (.getfield 74, 3) := by decide +kernel
theorem dX0_arrive_31 : decode cX0_arrive 31 = .ok (.iload 4, 2) := by decide +kernel
theorem dX0_arrive_33 : decode cX0_arrive 33 = .ok (.ifCond .le 8, 3) := by decide +kernel
theorem dX0_arrive_36 : decode cX0_arrive 36 = .ok (.lload 8, 2) := by decide +kernel
theorem dX0_arrive_38 : decode cX0_arrive 38 = .ok (.goto 4, 3) := by decide +kernel
theorem dX0_arrive_41 : decode cX0_arrive 41 = .ok (.lconst 0, 1) := by decide +kernel
theorem dX0_arrive_42 : decode cX0_arrive 42 = .ok (.ladd, 1) := by decide +kernel
theorem dX0_arrive_43 : decode cX0_arrive 43 = .ok (.putfield 74, 3) := by decide +kernel
theorem dX0_arrive_46 : decode cX0_arrive 46 = .ok (.aload_n 0, 1) := by decide +kernel
theorem dX0_arrive_47 : decode cX0_arrive 47 = .ok (.dup, 1) := by decide +kernel
theorem dX0_arrive_48 : decode cX0_arrive 48 = .ok (.getfield 86, 3) := by decide +kernel
theorem dX0_arrive_51 : decode cX0_arrive 51 = .ok (.iload 4, 2) := by decide +kernel
theorem dX0_arrive_53 : decode cX0_arrive 53 = .ok (.ifCond .ge 8, 3) := by decide +kernel
theorem dX0_arrive_56 : decode cX0_arrive 56 = .ok (.lload 8, 2) := by decide +kernel
theorem dX0_arrive_58 : decode cX0_arrive 58 = .ok (.goto 4, 3) := by decide +kernel
theorem dX0_arrive_61 : decode cX0_arrive 61 = .ok (.lconst 0, 1) := by decide +kernel
theorem dX0_arrive_62 : decode cX0_arrive 62 = .ok (.ladd, 1) := by decide +kernel
theorem dX0_arrive_63 : decode cX0_arrive 63 = .ok (.putfield 86, 3) := by decide +kernel
theorem dX0_arrive_66 : decode cX0_arrive 66 = .ok (.aload_n 0, 1) := by decide +kernel
theorem dX0_arrive_67 : decode cX0_arrive 67 = .ok (.getfield 9, 3) := by decide +kernel
theorem dX0_arrive_70 : decode cX0_arrive 70 = .ok (.iload_n 2, 1) := by decide +kernel
theorem dX0_arrive_71 : decode cX0_arrive 71 = .ok (.lload 8, 2) := by decide +kernel
theorem dX0_arrive_73 : decode cX0_arrive 73 = .ok (.invokestatic 137, 3) := by decide +kernel
theorem dX0_arrive_76 : decode cX0_arrive 76 = .ok (.aload_n 0, 1) := by decide +kernel
theorem dX0_arrive_77 : decode cX0_arrive 77 = .ok (.iload_n 3, 1) := by decide +kernel
theorem dX0_arrive_78 : decode cX0_arrive 78 = .ok (.iload 4, 2) := by decide +kernel
theorem dX0_arrive_80 : decode cX0_arrive 80 = .ok (.lload 8, 2) := by decide +kernel
theorem dX0_arrive_82 : decode cX0_arrive 82 = .ok (.invokevirtual 162, 3) := by decide +kernel
theorem dX0_arrive_85 : decode cX0_arrive 85 = .ok (.goto 75, 3) := by decide +kernel
theorem dX0_arrive_88 : decode cX0_arrive 88 = .ok (.iload_n 2, 1) := by decide +kernel
theorem dX0_arrive_89 : decode cX0_arrive 89 = .ok (.aload_n 0, 1) := by decide +kernel
theorem dX0_arrive_90 : decode cX0_arrive 90 = .ok (.getfield 92, 3) := by decide +kernel
theorem dX0_arrive_93 : decode cX0_arrive 93 = .ok (.if_icmp .lt 26, 3) := by decide +kernel
theorem dX0_arrive_96 : decode cX0_arrive 96 = .ok (.aload_n 0, 1) := by decide +kernel
theorem dX0_arrive_97 : decode cX0_arrive 97 = .ok (.dup, 1) := by decide +kernel
theorem dX0_arrive_98 : decode cX0_arrive 98 = .ok (.getfield 80, 3) := by decide +kernel
theorem dX0_arrive_101 : decode cX0_arrive 101 = .ok (.lload 6, 2) := by decide +kernel
theorem dX0_arrive_103 : decode cX0_arrive 103 = .ok (.ladd, 1) := by decide +kernel
theorem dX0_arrive_104 : decode cX0_arrive 104 = .ok (.putfield 80, 3) := by decide +kernel
theorem dX0_arrive_107 : decode cX0_arrive 107 = .ok (.aload_n 0, 1) := by decide +kernel
theorem dX0_arrive_108 : decode cX0_arrive 108 = .ok (.iload_n 3, 1) := by decide +kernel
theorem dX0_arrive_109 : decode cX0_arrive 109 = .ok (.iload 4, 2) := by decide +kernel
theorem dX0_arrive_111 : decode cX0_arrive 111 = .ok (.lload 6, 2) := by decide +kernel
theorem dX0_arrive_113 : decode cX0_arrive 113 = .ok (.invokevirtual 162, 3) := by decide +kernel
theorem dX0_arrive_116 : decode cX0_arrive 116 = .ok (.goto 44, 3) := by decide +kernel
theorem dX0_arrive_119 : decode cX0_arrive 119 = .ok (.iload_n 2, 1) := by decide +kernel
theorem dX0_arrive_120 : decode cX0_arrive 120 = .ok (.iconst 2, 1) := by decide +kernel
theorem dX0_arrive_121 : decode cX0_arrive 121 = .ok (.irem, 1) := by decide +kernel
theorem dX0_arrive_122 : decode cX0_arrive 122 = .ok (.ifCond .ne 17, 3) := by decide +kernel
theorem dX0_arrive_125 : decode cX0_arrive 125 = .ok (.aload_n 1, 1) := by decide +kernel
theorem dX0_arrive_126 : decode cX0_arrive 126 = .ok (.iload_n 2, 1) := by decide +kernel
theorem dX0_arrive_127 : decode cX0_arrive 127 = .ok (.iconst 2, 1) := by decide +kernel
theorem dX0_arrive_128 : decode cX0_arrive 128 = .ok (.idiv, 1) := by decide +kernel
theorem dX0_arrive_129 : decode cX0_arrive 129 = .ok (.iload 4, 2) := by decide +kernel
theorem dX0_arrive_131 : decode cX0_arrive 131 = .ok (.iload 5, 2) := by decide +kernel
theorem dX0_arrive_133 : decode cX0_arrive 133 = .ok (.invokevirtual 166, 3) := by decide +kernel
theorem dX0_arrive_136 : decode cX0_arrive 136 = .ok (.goto 5, 3) := by decide +kernel
theorem dX0_arrive_139 : decode cX0_arrive 139 = .ok (.iload 5, 2) := by decide +kernel
theorem dX0_arrive_141 : decode cX0_arrive 141 = .ok (.istore 8, 2) := by decide +kernel
theorem dX0_arrive_143 : decode cX0_arrive 143 = .ok (.aload_n 0, 1) := by decide +kernel
theorem dX0_arrive_144 : decode cX0_arrive 144 = .ok (.getfield 21, 3) := by decide +kernel
theorem dX0_arrive_147 : decode cX0_arrive 147 = .ok (.iload_n 3, 1) := by decide +kernel
theorem dX0_arrive_148 : decode cX0_arrive 148 = .ok (.iload 4, 2) := by decide +kernel
theorem dX0_arrive_150 : decode cX0_arrive 150 = .ok (.iload 8, 2) := by decide +kernel
theorem dX0_arrive_152 : decode cX0_arrive 152 = .ok (.invokestatic 134, 3) := by decide +kernel
theorem dX0_arrive_155 : decode cX0_arrive 155 = .ok (.lload 6, 2) := by decide +kernel
theorem dX0_arrive_157 : decode cX0_arrive 157 = .ok (.invokestatic 137, 3) := by decide +kernel
theorem dX0_arrive_160 : decode cX0_arrive 160 = .ok (.return_, 1) := by decide +kernel
theorem dX1_init_0 : decode cX1_init 0 = .ok (.aload_n 0, 1) := by decide +kernel
theorem dX1_init_1 : decode cX1_init 1 = .ok (.invokespecial 1, 3) := by decide +kernel
theorem dX1_init_4 : decode cX1_init 4 = .ok (.aload_n 0, 1) := by decide +kernel
theorem dX1_init_5 : decode cX1_init 5 = .ok (.lconst 1, 1) := by decide +kernel
theorem dX1_init_6 : decode cX1_init 6 = .ok (.putfield 7, 3) := by decide +kernel
theorem dX1_init_9 : decode cX1_init 9 = .ok (.return_, 1) := by decide +kernel
theorem dX1_put_0 : decode cX1_put 0 = .ok (.aload_n 0, 1) := by decide +kernel
theorem dX1_put_1 : decode cX1_put 1 = .ok (.lload_n 1, 1) := by decide +kernel
theorem dX1_put_2 : decode cX1_put 2 = .ok (.putfield 13, 3) := by decide +kernel
theorem dX1_put_5 : decode cX1_put 5 = .ok (.aload_n 0, 1) := by decide +kernel
theorem dX1_put_6 : decode cX1_put 6 = .ok (.lload_n 3, 1) := by decide +kernel
theorem dX1_put_7 : decode cX1_put 7 = .ok (.lconst 0, 1) := by decide +kernel
theorem dX1_put_8 : decode cX1_put 8 = .ok (.lcmp, 1) := by decide +kernel
theorem dX1_put_9 : decode cX1_put 9 = .ok (.ifCond .le 7, 3) := by decide +kernel
theorem dX1_put_12 : decode cX1_put 12 = .ok (.lload_n 3, 1) := by decide +kernel
theorem dX1_put_13 : decode cX1_put 13 = .ok (.goto 4, 3) := by decide +kernel
theorem dX1_put_16 : decode cX1_put 16 = .ok (.lconst 1, 1) := by decide +kernel
theorem dX1_put_17 : decode cX1_put 17 = .ok (.putfield 7, 3) := by decide +kernel
theorem dX1_put_20 : decode cX1_put 20 = .ok (.return_, 1) := by decide +kernel
theorem dX1_take_0 : decode cX1_take 0 = .ok (.aload_n 0, 1) := by decide +kernel
theorem dX1_take_1 : decode cX1_take 1 = .ok (.getfield 7, 3) := by decide +kernel
theorem dX1_take_4 : decode cX1_take 4 = .ok (.lload_n 3, 1) := by decide +kernel
theorem dX1_take_5 : decode cX1_take 5 = .ok (.lcmp, 1) := by decide +kernel
theorem dX1_take_6 : decode cX1_take 6 = .ok (.ifCond .ne 16, 3) := by decide +kernel
theorem dX1_take_9 : decode cX1_take 9 = .ok (.aload_n 0, 1) := by decide +kernel
theorem dX1_take_10 : decode cX1_take 10 = .ok (.dup, 1) := by decide +kernel
theorem dX1_take_11 : decode cX1_take 11 = .ok (.getfield 13, 3) := by decide +kernel
theorem dX1_take_14 : decode cX1_take 14 = .ok (.lload_n 1, 1) := by decide +kernel
theorem dX1_take_15 : decode cX1_take 15 = .ok (.lsub, 1) := by decide +kernel
theorem dX1_take_16 : decode cX1_take 16 = .ok (.putfield 13, 3) := by decide +kernel
theorem dX1_take_19 : decode cX1_take 19 = .ok (.goto 30, 3) := by decide +kernel
theorem dX1_take_22 : decode cX1_take 22 = .ok (.aload_n 0, 1) := by decide +kernel
theorem dX1_take_23 : decode cX1_take 23 = .ok (.aload_n 0, 1) := by decide +kernel
theorem dX1_take_24 : decode cX1_take 24 = .ok (.getfield 13, 3) := by decide +kernel
theorem dX1_take_27 : decode cX1_take 27 = .ok (.lload_n 3, 1) := by decide +kernel
theorem dX1_take_28 : decode cX1_take 28 = .ok (.lmul, 1) := by decide +kernel
theorem dX1_take_29 : decode cX1_take 29 = .ok (.lload_n 1, 1) := by decide +kernel
theorem dX1_take_30 : decode cX1_take 30 = .ok (.aload_n 0, 1) := by decide +kernel
theorem dX1_take_31 : decode cX1_take 31 = .ok (.getfield 7, 3) := by decide +kernel
theorem dX1_take_34 : decode cX1_take 34 = .ok (.lmul, 1) := by decide +kernel
theorem dX1_take_35 : decode cX1_take 35 = .ok (.lsub, 1) := by decide +kernel
theorem dX1_take_36 : decode cX1_take 36 = .ok (.putfield 13, 3) := by decide +kernel
theorem dX1_take_39 : decode cX1_take 39 = .ok (.aload_n 0, 1) := by decide +kernel
theorem dX1_take_40 : decode cX1_take 40 = .ok (.dup, 1) := by decide +kernel
theorem dX1_take_41 : decode cX1_take 41 = .ok (.getfield 7, 3) := by decide +kernel
theorem dX1_take_44 : decode cX1_take 44 = .ok (.lload_n 3, 1) := by decide +kernel
theorem dX1_take_45 : decode cX1_take 45 = .ok (.lmul, 1) := by decide +kernel
theorem dX1_take_46 : decode cX1_take 46 = .ok (.putfield 7, 3) := by decide +kernel
theorem dX1_take_49 : decode cX1_take 49 = .ok (.return_, 1) := by decide +kernel
theorem dX1_part_0 : decode cX1_part 0 = .ok (.iload_n 1, 1) := by decide +kernel
theorem dX1_part_1 : decode cX1_part 1 = .ok (.ifCond .ne 10, 3) := by decide +kernel
theorem dX1_part_4 : decode cX1_part 4 = .ok (.aload_n 0, 1) := by decide +kernel
theorem dX1_part_5 : decode cX1_part 5 = .ok (.getfield 13, 3) := by decide +kernel
theorem dX1_part_8 : decode cX1_part 8 = .ok (.goto 7, 3) := by decide +kernel
theorem dX1_part_11 : decode cX1_part 11 = .ok (.aload_n 0, 1) := by decide +kernel
theorem dX1_part_12 : decode cX1_part 12 = .ok (.getfield 7, 3) := by decide +kernel
theorem dX1_part_15 : decode cX1_part 15 = .ok (.lreturn, 1) := by decide +kernel
theorem dX1_reduce_0 : decode cX1_reduce 0 = .ok (.aload_n 0, 1) := by decide +kernel
theorem dX1_reduce_1 : decode cX1_reduce 1 = .ok (.getfield 7, 3) := by decide +kernel
theorem dX1_reduce_4 : decode cX1_reduce 4 = .ok (.lstore_n 1, 1) := by decide +kernel
theorem dX1_reduce_5 : decode cX1_reduce 5 = .ok (.aload_n 0, 1) := by decide +kernel
theorem dX1_reduce_6 : decode cX1_reduce 6 = .ok (.getfield 13, 3) := by decide +kernel
theorem dX1_reduce_9 : decode cX1_reduce 9 = .ok (.lconst 0, 1) := by decide +kernel
theorem dX1_reduce_10 : decode cX1_reduce 10 = .ok (.lcmp, 1) := by decide +kernel
theorem dX1_reduce_11 : decode cX1_reduce 11 = .ok (.ifCond .ge 11, 3) := by decide +kernel
theorem dX1_reduce_14 : decode cX1_reduce 14 = .ok (.aload_n 0, 1) := by decide +kernel
theorem dX1_reduce_15 : decode cX1_reduce 15 = .ok (.getfield 13, 3) := by decide +kernel
theorem dX1_reduce_18 : decode cX1_reduce 18 = .ok (.lneg, 1) := by decide +kernel
theorem dX1_reduce_19 : decode cX1_reduce 19 = .ok (.goto 7, 3) := by decide +kernel
theorem dX1_reduce_22 : decode cX1_reduce 22 = .ok (.aload_n 0, 1) := by decide +kernel
theorem dX1_reduce_23 : decode cX1_reduce 23 = .ok (.getfield 13, 3) := by decide +kernel
theorem dX1_reduce_26 : decode cX1_reduce 26 = .ok (.lstore_n 3, 1) := by decide +kernel
theorem dX1_reduce_27 : decode cX1_reduce 27 = .ok (.iconst 0, 1) := by decide +kernel
theorem dX1_reduce_28 : decode cX1_reduce 28 = .ok (.istore 5, 2) := by decide +kernel
theorem dX1_reduce_30 : decode cX1_reduce 30 = .ok (.iload 5, 2) := by decide +kernel
theorem dX1_reduce_32 : decode cX1_reduce 32 = .ok (.sipush 200, 3) := by decide +kernel
theorem dX1_reduce_35 : decode cX1_reduce 35 = .ok (.if_icmp .ge 25, 3) := by decide +kernel
theorem dX1_reduce_38 : decode cX1_reduce 38 = .ok (.lload_n 3, 1) := by decide +kernel
theorem dX1_reduce_39 : decode cX1_reduce 39 = .ok (.lconst 0, 1) := by decide +kernel
theorem dX1_reduce_40 : decode cX1_reduce 40 = .ok (.lcmp, 1) := by decide +kernel
theorem dX1_reduce_41 : decode cX1_reduce 41 = .ok (.ifCond .le 19, 3) := by decide +kernel
theorem dX1_reduce_44 : decode cX1_reduce 44 = .ok (.lload_n 1, 1) := by decide +kernel
theorem dX1_reduce_45 : decode cX1_reduce 45 = .ok (.lload_n 3, 1) := by decide +kernel
theorem dX1_reduce_46 : decode cX1_reduce 46 = .ok (.lrem, 1) := by decide +kernel
theorem dX1_reduce_47 : decode cX1_reduce 47 = .ok (.lstore 6, 2) := by decide +kernel
theorem dX1_reduce_49 : decode cX1_reduce 49 = .ok (.lload_n 3, 1) := by decide +kernel
theorem dX1_reduce_50 : decode cX1_reduce 50 = .ok (.lstore_n 1, 1) := by decide +kernel
theorem dX1_reduce_51 : decode cX1_reduce 51 = .ok (.lload 6, 2) := by decide +kernel
theorem dX1_reduce_53 : decode cX1_reduce 53 = .ok (.lstore_n 3, 1) := by decide +kernel
theorem dX1_reduce_54 : decode cX1_reduce 54 = .ok (.iinc 5 1, 3) := by decide +kernel
theorem dX1_reduce_57 : decode cX1_reduce 57 = .ok (.goto (-27), 3) := by decide +kernel
theorem dX1_reduce_60 : decode cX1_reduce 60 = .ok (.lload_n 1, 1) := by decide +kernel
theorem dX1_reduce_61 : decode cX1_reduce 61 = .ok (.lconst 0, 1) := by decide +kernel
theorem dX1_reduce_62 : decode cX1_reduce 62 = .ok (.lcmp, 1) := by decide +kernel
theorem dX1_reduce_63 : decode cX1_reduce 63 = .ok (.ifCond .le 23, 3) := by decide +kernel
theorem dX1_reduce_66 : decode cX1_reduce 66 = .ok (.aload_n 0, 1) := by decide +kernel
theorem dX1_reduce_67 : decode cX1_reduce 67 = .ok (.dup, 1) := by decide +kernel
theorem dX1_reduce_68 : decode cX1_reduce 68 = .ok (.getfield 13, 3) := by decide +kernel
theorem dX1_reduce_71 : decode cX1_reduce 71 = .ok (.lload_n 1, 1) := by decide +kernel
theorem dX1_reduce_72 : decode cX1_reduce 72 = .ok (.ldiv, 1) := by decide +kernel
theorem dX1_reduce_73 : decode cX1_reduce 73 = .ok (.putfield 13, 3) := by decide +kernel
theorem dX1_reduce_76 : decode cX1_reduce 76 = .ok (.aload_n 0, 1) := by decide +kernel
theorem dX1_reduce_77 : decode cX1_reduce 77 = .ok (.dup, 1) := by decide +kernel
theorem dX1_reduce_78 : decode cX1_reduce 78 = .ok (.getfield 7, 3) := by decide +kernel
theorem dX1_reduce_81 : decode cX1_reduce 81 = .ok (.lload_n 1, 1) := by decide +kernel
theorem dX1_reduce_82 : decode cX1_reduce 82 = .ok (.ldiv, 1) := by decide +kernel
theorem dX1_reduce_83 : decode cX1_reduce 83 = .ok (.putfield 7, 3) := by decide +kernel
theorem dX1_reduce_86 : decode cX1_reduce 86 = .ok (.return_, 1) := by decide +kernel
theorem dX1_against_0 : decode cX1_against 0 = .ok (.aload_n 0, 1) := by decide +kernel
theorem dX1_against_1 : decode cX1_against 1 = .ok (.getfield 13, 3) := by decide +kernel
theorem dX1_against_4 : decode cX1_against 4 = .ok (.aload_n 0, 1) := by decide +kernel
theorem dX1_against_5 : decode cX1_against 5 = .ok (.getfield 7, 3) := by decide +kernel
theorem dX1_against_8 : decode cX1_against 8 = .ok (.aload_n 1, 1) := by decide +kernel
theorem dX1_against_9 : decode cX1_against 9 = .ok (.getfield 13, 3) := by decide +kernel
theorem dX1_against_12 : decode cX1_against 12 = .ok (.aload_n 1, 1) := by decide +kernel
theorem dX1_against_13 : decode cX1_against 13 = .ok (.getfield 7, 3) := by decide +kernel
theorem dX1_against_16 : decode cX1_against 16 = .ok (.invokestatic 16, 3) := by decide +kernel
theorem dX1_against_19 : decode cX1_against 19 = .ok (.ireturn, 1) := by decide +kernel
theorem dX1_compareFractions_0 : decode cX1_compareFractions 0 = .ok (.lload_n 0, 1) := by decide +kernel
theorem dX1_compareFractions_1 : decode cX1_compareFractions 1 = .ok (.lstore 8, 2) := by decide +kernel
theorem dX1_compareFractions_3 : decode cX1_compareFractions 3 = .ok (.lload_n 2, 1) := by decide +kernel
theorem dX1_compareFractions_4 : decode cX1_compareFractions 4 = .ok (.lstore 10, 2) := by decide +kernel
theorem dX1_compareFractions_6 : decode cX1_compareFractions 6 = .ok (.lload 4, 2) := by decide +kernel
theorem dX1_compareFractions_8 : decode cX1_compareFractions 8 = .ok (.lstore 12, 2) := by decide +kernel
theorem dX1_compareFractions_10 : decode cX1_compareFractions 10 = .ok (.lload 6, 2) := by decide +kernel
theorem dX1_compareFractions_12 : decode cX1_compareFractions 12 = .ok (.lstore 14, 2) := by decide +kernel
theorem dX1_compareFractions_14 : decode cX1_compareFractions 14 = .ok (.iconst 1, 1) := by decide +kernel
theorem dX1_compareFractions_15 : decode cX1_compareFractions 15 = .ok (.istore 16, 2) := by decide +kernel
theorem dX1_compareFractions_17 : decode cX1_compareFractions 17 = .ok (.iconst 0, 1) := by decide +kernel
theorem dX1_compareFractions_18 : decode cX1_compareFractions 18 = .ok (.istore 17, 2) := by decide +kernel
theorem dX1_compareFractions_20 : decode cX1_compareFractions 20 = .ok (.iload 17, 2) := by decide +kernel
theorem dX1_compareFractions_22 : decode cX1_compareFractions 22 = .ok (.sipush 200, 3) := by decide +kernel
theorem dX1_compareFractions_25 : decode cX1_compareFractions 25 = .ok (.if_icmp .ge 145, 3) := by decide +kernel
theorem dX1_compareFractions_28 : decode cX1_compareFractions 28 = .ok (.lload 10, 2) := by decide +kernel
theorem dX1_compareFractions_30 : decode cX1_compareFractions 30 = .ok (.lconst 0, 1) := by decide +kernel
theorem dX1_compareFractions_31 : decode cX1_compareFractions 31 = .ok (.lcmp, 1) := by decide +kernel
theorem dX1_compareFractions_32 : decode cX1_compareFractions 32 = .ok (.ifCond .le 138, 3) := by decide +kernel
theorem dX1_compareFractions_35 : decode cX1_compareFractions 35 = .ok (.lload 14, 2) := by decide +kernel
theorem dX1_compareFractions_37 : decode cX1_compareFractions 37 = .ok (.lconst 0, 1) := by decide +kernel
theorem dX1_compareFractions_38 : decode cX1_compareFractions 38 = .ok (.lcmp, 1) := by decide +kernel
theorem dX1_compareFractions_39 : decode cX1_compareFractions 39 = .ok (.ifCond .le 131, 3) := by decide +kernel
theorem dX1_compareFractions_42 : decode cX1_compareFractions 42 = .ok (.lload 8, 2) := by decide +kernel
theorem dX1_compareFractions_44 : decode cX1_compareFractions 44 = .ok (.lload 10, 2) := by decide +kernel
theorem dX1_compareFractions_46 : decode cX1_compareFractions 46 = .ok (.ldiv, 1) := by decide +kernel
theorem dX1_compareFractions_47 : decode cX1_compareFractions 47 = .ok (.lstore 18, 2) := by decide +kernel
theorem dX1_compareFractions_49 : decode cX1_compareFractions 49 = .ok (.lload 12, 2) := by decide +kernel
theorem dX1_compareFractions_51 : decode cX1_compareFractions 51 = .ok (.lload 14, 2) := by decide +kernel
theorem dX1_compareFractions_53 : decode cX1_compareFractions 53 = .ok (.ldiv, 1) := by decide +kernel
theorem dX1_compareFractions_54 : decode cX1_compareFractions 54 = .ok (.lstore 20, 2) := by decide +kernel
theorem dX1_compareFractions_56 : decode cX1_compareFractions 56 = .ok (.lload 18, 2) := by decide +kernel
theorem dX1_compareFractions_58 : decode cX1_compareFractions 58 = .ok (.lload 20, 2) := by decide +kernel
theorem dX1_compareFractions_60 : decode cX1_compareFractions 60 = .ok (.lcmp, 1) := by decide +kernel
theorem dX1_compareFractions_61 : decode cX1_compareFractions 61 = .ok (.ifCond .eq 20, 3) := by decide +kernel
theorem dX1_compareFractions_64 : decode cX1_compareFractions 64 = .ok (.lload 18, 2) := by decide +kernel
theorem dX1_compareFractions_66 : decode cX1_compareFractions 66 = .ok (.lload 20, 2) := by decide +kernel
theorem dX1_compareFractions_68 : decode cX1_compareFractions 68 = .ok (.lcmp, 1) := by decide +kernel
theorem dX1_compareFractions_69 : decode cX1_compareFractions 69 = .ok (.ifCond .le 8, 3) := by decide +kernel
theorem dX1_compareFractions_72 : decode cX1_compareFractions 72 = .ok (.iload 16, 2) := by decide +kernel
theorem dX1_compareFractions_74 : decode cX1_compareFractions 74 = .ok (.goto 6, 3) := by decide +kernel
theorem dX1_compareFractions_77 : decode cX1_compareFractions 77 = .ok (.iload 16, 2) := by decide +kernel
theorem dX1_compareFractions_79 : decode cX1_compareFractions 79 = .ok (.ineg, 1) := by decide +kernel
theorem dX1_compareFractions_80 : decode cX1_compareFractions 80 = .ok (.ireturn, 1) := by decide +kernel
theorem dX1_compareFractions_81 : decode cX1_compareFractions 81 = .ok (.lload 8, 2) := by decide +kernel
theorem dX1_compareFractions_83 : decode cX1_compareFractions 83 = .ok (.lload 18, 2) := by decide +kernel
theorem dX1_compareFractions_85 : decode cX1_compareFractions 85 = .ok (.lload 10, 2) := by decide +kernel
theorem dX1_compareFractions_87 : decode cX1_compareFractions 87 = .ok (.lmul, 1) := by decide +kernel
theorem dX1_compareFractions_88 : decode cX1_compareFractions 88 = .ok (.lsub, 1) := by decide +kernel
theorem dX1_compareFractions_89 : decode cX1_compareFractions 89 = .ok (.lstore 22, 2) := by decide +kernel
theorem dX1_compareFractions_91 : decode cX1_compareFractions 91 = .ok (.lload 12, 2) := by decide +kernel
theorem dX1_compareFractions_93 : decode cX1_compareFractions 93 = .ok (.lload 20, 2) := by decide +kernel
theorem dX1_compareFractions_95 : decode cX1_compareFractions 95 = .ok (.lload 14, 2) := by decide +kernel
theorem dX1_compareFractions_97 : decode cX1_compareFractions 97 = .ok (.lmul, 1) := by decide +kernel
theorem dX1_compareFractions_98 : decode cX1_compareFractions 98 = .ok (.lsub, 1) := by decide +kernel
theorem dX1_compareFractions_99 : decode cX1_compareFractions 99 = .ok (.lstore 24, 2) := by decide +kernel
theorem dX1_compareFractions_101 : decode cX1_compareFractions 101 = .ok (.lload 22, 2) := by decide +kernel
theorem dX1_compareFractions_103 : decode cX1_compareFractions 103 = .ok (.lconst 0, 1) := by decide +kernel
theorem dX1_compareFractions_104 : decode cX1_compareFractions 104 = .ok (.lcmp, 1) := by decide +kernel
theorem dX1_compareFractions_105 : decode cX1_compareFractions 105 = .ok (.ifCond .eq 10, 3) := by decide +kernel
theorem dX1_compareFractions_108 : decode cX1_compareFractions 108 = .ok (.lload 24, 2) := by decide +kernel
theorem dX1_compareFractions_110 : decode cX1_compareFractions 110 = .ok (.lconst 0, 1) := by decide +kernel
theorem dX1_compareFractions_111 : decode cX1_compareFractions 111 = .ok (.lcmp, 1) := by decide +kernel
theorem dX1_compareFractions_112 : decode cX1_compareFractions 112 = .ok (.ifCond .ne 31, 3) := by decide +kernel
theorem dX1_compareFractions_115 : decode cX1_compareFractions 115 = .ok (.lload 22, 2) := by decide +kernel
theorem dX1_compareFractions_117 : decode cX1_compareFractions 117 = .ok (.lload 24, 2) := by decide +kernel
theorem dX1_compareFractions_119 : decode cX1_compareFractions 119 = .ok (.lcmp, 1) := by decide +kernel
theorem dX1_compareFractions_120 : decode cX1_compareFractions 120 = .ok (.ifCond .ne 7, 3) := by decide +kernel
theorem dX1_compareFractions_123 : decode cX1_compareFractions 123 = .ok (.iconst 0, 1) := by decide +kernel
theorem dX1_compareFractions_124 : decode cX1_compareFractions 124 = .ok (.goto 18, 3) := by decide +kernel
theorem dX1_compareFractions_127 : decode cX1_compareFractions 127 = .ok (.lload 22, 2) := by decide +kernel
theorem dX1_compareFractions_129 : decode cX1_compareFractions 129 = .ok (.lconst 0, 1) := by decide +kernel
theorem dX1_compareFractions_130 : decode cX1_compareFractions 130 = .ok (.lcmp, 1) := by decide +kernel
theorem dX1_compareFractions_131 : decode cX1_compareFractions 131 = .ok (.ifCond .le 8, 3) := by decide +kernel
theorem dX1_compareFractions_134 : decode cX1_compareFractions 134 = .ok (.iload 16, 2) := by decide +kernel
theorem dX1_compareFractions_136 : decode cX1_compareFractions 136 = .ok (.goto 6, 3) := by decide +kernel
theorem dX1_compareFractions_139 : decode cX1_compareFractions 139 = .ok (.iload 16, 2) := by decide +kernel
theorem dX1_compareFractions_141 : decode cX1_compareFractions 141 = .ok (.ineg, 1) := by decide +kernel
theorem dX1_compareFractions_142 : decode cX1_compareFractions 142 = .ok (.ireturn, 1) := by decide +kernel
theorem dX1_compareFractions_143 : decode cX1_compareFractions 143 = .ok (.lload 10, 2) := by decide +kernel
theorem dX1_compareFractions_145 : decode cX1_compareFractions 145 = .ok (.lstore 8, 2) := by decide +kernel
theorem dX1_compareFractions_147 : decode cX1_compareFractions 147 = .ok (.lload 22, 2) := by decide +kernel
theorem dX1_compareFractions_149 : decode cX1_compareFractions 149 = .ok (.lstore 10, 2) := by decide +kernel
theorem dX1_compareFractions_151 : decode cX1_compareFractions 151 = .ok (.lload 14, 2) := by decide +kernel
theorem dX1_compareFractions_153 : decode cX1_compareFractions 153 = .ok (.lstore 12, 2) := by decide +kernel
theorem dX1_compareFractions_155 : decode cX1_compareFractions 155 = .ok (.lload 24, 2) := by decide +kernel
theorem dX1_compareFractions_157 : decode cX1_compareFractions 157 = .ok (.lstore 14, 2) := by decide +kernel
theorem dX1_compareFractions_159 : decode cX1_compareFractions 159 = .ok (.iload 16, 2) := by decide +kernel
theorem dX1_compareFractions_161 : decode cX1_compareFractions 161 = .ok (.ineg, 1) := by decide +kernel
theorem dX1_compareFractions_162 : decode cX1_compareFractions 162 = .ok (.istore 16, 2) := by decide +kernel
theorem dX1_compareFractions_164 : decode cX1_compareFractions 164 = .ok (.iinc 17 1, 3) := by decide +kernel
theorem dX1_compareFractions_167 : decode cX1_compareFractions 167 = .ok (.goto (-147), 3) := by decide +kernel
theorem dX1_compareFractions_170 : decode cX1_compareFractions 170 = .ok (.iconst 0, 1) := by decide +kernel
theorem dX1_compareFractions_171 : decode cX1_compareFractions 171 = .ok (.ireturn, 1) := by decide +kernel
theorem dX2_init_0 : decode cX2_init 0 = .ok (.aload_n 0, 1) := by decide +kernel
theorem dX2_init_1 : decode cX2_init 1 = .ok (.invokespecial 3, 3) := by decide +kernel
theorem dX2_init_4 : decode cX2_init 4 = .ok (.aload_n 0, 1) := by decide +kernel
theorem dX2_init_5 : decode cX2_init 5 = .ok (.bipush 20, 2) := by decide +kernel
theorem dX2_init_7 : decode cX2_init 7 = .ok (.anewarray 9, 3) := by decide +kernel
theorem dX2_init_10 : decode cX2_init 10 = .ok (.putfield 11, 3) := by decide +kernel
theorem dX2_init_13 : decode cX2_init 13 = .ok (.iconst 0, 1) := by decide +kernel
theorem dX2_init_14 : decode cX2_init 14 = .ok (.istore_n 1, 1) := by decide +kernel
theorem dX2_init_15 : decode cX2_init 15 = .ok (.iload_n 1, 1) := by decide +kernel
theorem dX2_init_16 : decode cX2_init 16 = .ok (.aload_n 0, 1) := by decide +kernel
theorem dX2_init_17 : decode cX2_init 17 = .ok (.getfield 11, 3) := by decide +kernel
theorem dX2_init_20 : decode cX2_init 20 = .ok (.arraylength, 1) := by decide +kernel
theorem dX2_init_21 : decode cX2_init 21 = .ok (.if_icmp .ge 22, 3) := by decide +kernel
theorem dX2_init_24 : decode cX2_init 24 = .ok (.aload_n 0, 1) := by decide +kernel
theorem dX2_init_25 : decode cX2_init 25 = .ok (.getfield 11, 3) := by decide +kernel
theorem dX2_init_28 : decode cX2_init 28 = .ok (.iload_n 1, 1) := by decide +kernel
theorem dX2_init_29 : decode cX2_init 29 = .ok (.new 9, 3) := by decide +kernel
theorem dX2_init_32 : decode cX2_init 32 = .ok (.dup, 1) := by decide +kernel
theorem dX2_init_33 : decode cX2_init 33 = .ok (.invokespecial 17, 3) := by decide +kernel
theorem dX2_init_36 : decode cX2_init 36 = .ok (.aastore, 1) := by decide +kernel
theorem dX2_init_37 : decode cX2_init 37 = .ok (.iinc 1 1, 3) := by decide +kernel
theorem dX2_init_40 : decode cX2_init 40 = .ok (.goto (-25), 3) := by decide +kernel
theorem dX2_init_43 : decode cX2_init 43 = .ok (.return_, 1) := by decide +kernel
theorem dX2_forget_0 : decode cX2_forget 0 = .ok (.aload_n 0, 1) := by decide +kernel
theorem dX2_forget_1 : decode cX2_forget 1 = .ok (.iconst 0, 1) := by decide +kernel
theorem dX2_forget_2 : decode cX2_forget 2 = .ok (.putfield 18, 3) := by decide +kernel
theorem dX2_forget_5 : decode cX2_forget 5 = .ok (.return_, 1) := by decide +kernel
theorem dX2_push_0 : decode cX2_push 0 = .ok (.aload_n 0, 1) := by decide +kernel
theorem dX2_push_1 : decode cX2_push 1 = .ok (.getfield 22, 3) := by decide +kernel
theorem dX2_push_4 : decode cX2_push 4 = .ok (.ifCond .lt 15, 3) := by decide +kernel
theorem dX2_push_7 : decode cX2_push 7 = .ok (.aload_n 0, 1) := by decide +kernel
theorem dX2_push_8 : decode cX2_push 8 = .ok (.getfield 22, 3) := by decide +kernel
theorem dX2_push_11 : decode cX2_push 11 = .ok (.aload_n 0, 1) := by decide +kernel
theorem dX2_push_12 : decode cX2_push 12 = .ok (.getfield 11, 3) := by decide +kernel
theorem dX2_push_15 : decode cX2_push 15 = .ok (.arraylength, 1) := by decide +kernel
theorem dX2_push_16 : decode cX2_push 16 = .ok (.if_icmp .lt 8, 3) := by decide +kernel
theorem dX2_push_19 : decode cX2_push 19 = .ok (.aload_n 0, 1) := by decide +kernel
theorem dX2_push_20 : decode cX2_push 20 = .ok (.iconst 0, 1) := by decide +kernel
theorem dX2_push_21 : decode cX2_push 21 = .ok (.putfield 22, 3) := by decide +kernel
theorem dX2_push_24 : decode cX2_push 24 = .ok (.aload_n 0, 1) := by decide +kernel
theorem dX2_push_25 : decode cX2_push 25 = .ok (.getfield 11, 3) := by decide +kernel
theorem dX2_push_28 : decode cX2_push 28 = .ok (.aload_n 0, 1) := by decide +kernel
theorem dX2_push_29 : decode cX2_push 29 = .ok (.getfield 22, 3) := by decide +kernel
theorem dX2_push_32 : decode cX2_push 32 = .ok (.aaload, 1) := by decide +kernel
theorem dX2_push_33 : decode cX2_push 33 = .ok (.aload_n 1, 1) := by decide +kernel
theorem dX2_push_34 : decode cX2_push 34 = .ok (.invokevirtual 25, 3) := by decide +kernel
theorem dX2_push_37 : decode cX2_push 37 = .ok (.aload_n 0, 1) := by decide +kernel
theorem dX2_push_38 : decode cX2_push 38 = .ok (.aload_n 0, 1) := by decide +kernel
theorem dX2_push_39 : decode cX2_push 39 = .ok (.getfield 22, 3) := by decide +kernel
theorem dX2_push_42 : decode cX2_push 42 = .ok (.iconst 1, 1) := by decide +kernel
theorem dX2_push_43 : decode cX2_push 43 = .ok (.iadd, 1) := by decide +kernel
theorem dX2_push_44 : decode cX2_push 44 = .ok (.bipush 20, 2) := by decide +kernel
theorem dX2_push_46 : decode cX2_push 46 = .ok (.irem, 1) := by decide +kernel
theorem dX2_push_47 : decode cX2_push 47 = .ok (.putfield 22, 3) := by decide +kernel
theorem dX2_push_50 : decode cX2_push 50 = .ok (.aload_n 0, 1) := by decide +kernel
theorem dX2_push_51 : decode cX2_push 51 = .ok (.aload_n 0, 1) := by decide +kernel
theorem dX2_push_52 : decode cX2_push 52 = .ok (.getfield 18, 3) := by decide +kernel
theorem dX2_push_55 : decode cX2_push 55 = .ok (.iconst 1, 1) := by decide +kernel
theorem dX2_push_56 : decode cX2_push 56 = .ok (.iadd, 1) := by decide +kernel
theorem dX2_push_57 : decode cX2_push 57 = .ok (.bipush 20, 2) := by decide +kernel
theorem dX2_push_59 : decode cX2_push 59 = .ok (.invokestatic 29, 3) := by decide +kernel
theorem dX2_push_62 : decode cX2_push 62 = .ok (.putfield 18, 3) := by decide +kernel
theorem dX2_push_65 : decode cX2_push 65 = .ok (.return_, 1) := by decide +kernel
theorem dX2_popInto_0 : decode cX2_popInto 0 = .ok (.aload_n 0, 1) := by decide +kernel
theorem dX2_popInto_1 : decode cX2_popInto 1 = .ok (.getfield 18, 3) := by decide +kernel
theorem dX2_popInto_4 : decode cX2_popInto 4 = .ok (.ifCond .ne 5, 3) := by decide +kernel
theorem dX2_popInto_7 : decode cX2_popInto 7 = .ok (.iconst 0, 1) := by decide +kernel
theorem dX2_popInto_8 : decode cX2_popInto 8 = .ok (.ireturn, 1) := by decide +kernel
theorem dX2_popInto_9 : decode cX2_popInto 9 = .ok (.aload_n 0, 1) := by decide +kernel
theorem dX2_popInto_10 : decode cX2_popInto 10 = .ok (.aload_n 0, 1) := by decide +kernel
theorem dX2_popInto_11 : decode cX2_popInto 11 = .ok (.getfield 22, 3) := by decide +kernel
theorem dX2_popInto_14 : decode cX2_popInto 14 = .ok (.ifCond .le 24, 3) := by decide +kernel
theorem dX2_popInto_17 : decode cX2_popInto 17 = .ok (.aload_n 0, 1) := by decide +kernel
theorem dX2_popInto_18 : decode cX2_popInto 18 = .ok (.getfield 22, 3) := by decide +kernel
theorem dX2_popInto_21 : decode cX2_popInto 21 = .ok (.aload_n 0, 1) := by decide +kernel
theorem dX2_popInto_22 : decode cX2_popInto 22 = .ok (.getfield 11, 3) := by decide +kernel
theorem dX2_popInto_25 : decode cX2_popInto 25 = .ok (.arraylength, 1) := by decide +kernel
theorem dX2_popInto_26 : decode cX2_popInto 26 = .ok (.if_icmp .gt 12, 3) := by decide +kernel
theorem dX2_popInto_29 : decode cX2_popInto 29 = .ok (.aload_n 0, 1) := by decide +kernel
theorem dX2_popInto_30 : decode cX2_popInto 30 = .ok (.getfield 22, 3) := by decide +kernel
theorem dX2_popInto_33 : decode cX2_popInto 33 = .ok (.iconst 1, 1) := by decide +kernel
theorem dX2_popInto_34 : decode cX2_popInto 34 = .ok (.isub, 1) := by decide +kernel
theorem dX2_popInto_35 : decode cX2_popInto 35 = .ok (.goto 10, 3) := by decide +kernel
theorem dX2_popInto_38 : decode cX2_popInto 38 = .ok (.aload_n 0, 1) := by decide +kernel
theorem dX2_popInto_39 : decode cX2_popInto 39 = .ok (.getfield 11, 3) := by decide +kernel
theorem dX2_popInto_42 : decode cX2_popInto 42 = .ok (.arraylength, 1) := by decide +kernel
theorem dX2_popInto_43 : decode cX2_popInto 43 = .ok (.iconst 1, 1) := by decide +kernel
theorem dX2_popInto_44 : decode cX2_popInto 44 = .ok (.isub, 1) := by decide +kernel
theorem dX2_popInto_45 : decode cX2_popInto 45 = .ok (.putfield 22, 3) := by decide +kernel
theorem dX2_popInto_48 : decode cX2_popInto 48 = .ok (.aload_n 0, 1) := by decide +kernel
theorem dX2_popInto_49 : decode cX2_popInto 49 = .ok (.dup, 1) := by decide +kernel
theorem dX2_popInto_50 : decode cX2_popInto 50 = .ok (.getfield 18, 3) := by decide +kernel
theorem dX2_popInto_53 : decode cX2_popInto 53 = .ok (.iconst 1, 1) := by decide +kernel
theorem dX2_popInto_54 : decode cX2_popInto 54 = .ok (.isub, 1) := by decide +kernel
theorem dX2_popInto_55 : decode cX2_popInto 55 = .ok (.putfield 18, 3) := by decide +kernel
theorem dX2_popInto_58 : decode cX2_popInto 58 = .ok (.aload_n 1, 1) := by decide +kernel
theorem dX2_popInto_59 : decode cX2_popInto 59 = .ok (.aload_n 0, 1) := by decide +kernel
theorem dX2_popInto_60 : decode cX2_popInto 60 = .ok (.getfield 11, 3) := by decide +kernel
theorem dX2_popInto_63 : decode cX2_popInto 63 = .ok (.aload_n 0, 1) := by decide +kernel
theorem dX2_popInto_64 : decode cX2_popInto 64 = .ok (.getfield 22, 3) := by decide +kernel
theorem dX2_popInto_67 : decode cX2_popInto 67 = .ok (.aaload, 1) := by decide +kernel
theorem dX2_popInto_68 : decode cX2_popInto 68 = .ok (.invokevirtual 25, 3) := by decide +kernel
theorem dX2_popInto_71 : decode cX2_popInto 71 = .ok (.iconst 1, 1) := by decide +kernel
theorem dX2_popInto_72 : decode cX2_popInto 72 = .ok (.ireturn, 1) := by decide +kernel
theorem dX3_init_0 : decode cX3_init 0 = .ok (.aload_n 0, 1) := by decide +kernel
theorem dX3_init_1 : decode cX3_init 1 = .ok (.invokespecial 3, 3) := by decide +kernel
theorem dX3_init_4 : decode cX3_init 4 = .ok (.aload_n 0, 1) := by decide +kernel
theorem dX3_init_5 : decode cX3_init 5 = .ok (.sipush 576, 3) := by decide +kernel
theorem dX3_init_8 : decode cX3_init 8 = .ok (.newarray .long, 2) := by decide +kernel
theorem dX3_init_10 : decode cX3_init 10 = .ok (.putfield 9, 3) := by decide +kernel
theorem dX3_init_13 : decode cX3_init 13 = .ok (.aload_n 0, 1) := by decide +kernel
theorem dX3_init_14 : decode cX3_init 14 = .ok (.sipush 576, 3) := by decide +kernel
theorem dX3_init_17 : decode cX3_init 17 = .ok (.newarray .long, 2) := by decide +kernel
theorem dX3_init_19 : decode cX3_init 19 = .ok (.putfield 15, 3) := by decide +kernel
theorem dX3_init_22 : decode cX3_init 22 = .ok (.aload_n 0, 1) := by decide +kernel
theorem dX3_init_23 : decode cX3_init 23 = .ok (.sipush 576, 3) := by decide +kernel
theorem dX3_init_26 : decode cX3_init 26 = .ok (.newarray .long, 2) := by decide +kernel
theorem dX3_init_28 : decode cX3_init 28 = .ok (.putfield 18, 3) := by decide +kernel
theorem dX3_init_31 : decode cX3_init 31 = .ok (.aload_n 0, 1) := by decide +kernel
theorem dX3_init_32 : decode cX3_init 32 = .ok (.bipush 24, 2) := by decide +kernel
theorem dX3_init_34 : decode cX3_init 34 = .ok (.newarray .int, 2) := by decide +kernel
theorem dX3_init_36 : decode cX3_init 36 = .ok (.putfield 21, 3) := by decide +kernel
theorem dX3_init_39 : decode cX3_init 39 = .ok (.aload_n 0, 1) := by decide +kernel
theorem dX3_init_40 : decode cX3_init 40 = .ok (.bipush 24, 2) := by decide +kernel
theorem dX3_init_42 : decode cX3_init 42 = .ok (.newarray .int, 2) := by decide +kernel
theorem dX3_init_44 : decode cX3_init 44 = .ok (.putfield 25, 3) := by decide +kernel
theorem dX3_init_47 : decode cX3_init 47 = .ok (.return_, 1) := by decide +kernel
theorem dX3_begin_0 : decode cX3_begin 0 = .ok (.aload_n 0, 1) := by decide +kernel
theorem dX3_begin_1 : decode cX3_begin 1 = .ok (.iload_n 1, 1) := by decide +kernel
theorem dX3_begin_2 : decode cX3_begin 2 = .ok (.bipush 24, 2) := by decide +kernel
theorem dX3_begin_4 : decode cX3_begin 4 = .ok (.invokestatic 28, 3) := by decide +kernel
theorem dX3_begin_7 : decode cX3_begin 7 = .ok (.putfield 34, 3) := by decide +kernel
theorem dX3_begin_10 : decode cX3_begin 10 = .ok (.iconst 0, 1) := by decide +kernel
theorem dX3_begin_11 : decode cX3_begin 11 = .ok (.istore_n 2, 1) := by decide +kernel
theorem dX3_begin_12 : decode cX3_begin 12 = .ok (.iload_n 2, 1) := by decide +kernel
theorem dX3_begin_13 : decode cX3_begin 13 = .ok (.bipush 24, 2) := by decide +kernel
theorem dX3_begin_15 : decode cX3_begin 15 = .ok (.if_icmp .ge 23, 3) := by decide +kernel
theorem dX3_begin_18 : decode cX3_begin 18 = .ok (.aload_n 0, 1) := by decide +kernel
theorem dX3_begin_19 : decode cX3_begin 19 = .ok (.getfield 21, 3) := by decide +kernel
theorem dX3_begin_22 : decode cX3_begin 22 = .ok (.iload_n 2, 1) := by decide +kernel
theorem dX3_begin_23 : decode cX3_begin 23 = .ok (.iconst (-1), 1) := by decide +kernel
theorem dX3_begin_24 : decode cX3_begin 24 = .ok (.iastore, 1) := by decide +kernel
theorem dX3_begin_25 : decode cX3_begin 25 = .ok (.aload_n 0, 1) := by decide +kernel
theorem dX3_begin_26 : decode cX3_begin 26 = .ok (.getfield 25, 3) := by decide +kernel
theorem dX3_begin_29 : decode cX3_begin 29 = .ok (.iload_n 2, 1) := by decide +kernel
theorem dX3_begin_30 : decode cX3_begin 30 = .ok (.iconst (-1), 1) := by decide +kernel
theorem dX3_begin_31 : decode cX3_begin 31 = .ok (.iastore, 1) := by decide +kernel
theorem dX3_begin_32 : decode cX3_begin 32 = .ok (.iinc 2 1, 3) := by decide +kernel
theorem dX3_begin_35 : decode cX3_begin 35 = .ok (.goto (-23), 3) := by decide +kernel
theorem dX3_begin_38 : decode cX3_begin 38 = .ok (.return_, 1) := by decide +kernel
theorem dX3_take_0 : decode cX3_take 0 = .ok (.iload_n 1, 1) := by decide +kernel
theorem dX3_take_1 : decode cX3_take 1 = .ok (.ifCond .lt 23, 3) := by decide +kernel
theorem dX3_take_4 : decode cX3_take 4 = .ok (.iload_n 1, 1) := by decide +kernel
theorem dX3_take_5 : decode cX3_take 5 = .ok (.aload_n 0, 1) := by decide +kernel
theorem dX3_take_6 : decode cX3_take 6 = .ok (.getfield 34, 3) := by decide +kernel
theorem dX3_take_9 : decode cX3_take 9 = .ok (.if_icmp .ge 15, 3) := by decide +kernel
theorem dX3_take_12 : decode cX3_take 12 = .ok (.iload_n 2, 1) := by decide +kernel
theorem dX3_take_13 : decode cX3_take 13 = .ok (.ifCond .lt 11, 3) := by decide +kernel
theorem dX3_take_16 : decode cX3_take 16 = .ok (.iload_n 2, 1) := by decide +kernel
theorem dX3_take_17 : decode cX3_take 17 = .ok (.aload_n 0, 1) := by decide +kernel
theorem dX3_take_18 : decode cX3_take 18 = .ok (.getfield 34, 3) := by decide +kernel
theorem dX3_take_21 : decode cX3_take 21 = .ok (.if_icmp .lt 4, 3) := by decide +kernel
theorem dX3_take_24 : decode cX3_take 24 = .ok (.return_, 1) := by decide +kernel
theorem dX3_take_25 : decode cX3_take 25 = .ok (.iload_n 1, 1) := by decide +kernel
theorem dX3_take_26 : decode cX3_take 26 = .ok (.bipush 24, 2) := by decide +kernel
theorem dX3_take_28 : decode cX3_take 28 = .ok (.imul, 1) := by decide +kernel
theorem dX3_take_29 : decode cX3_take 29 = .ok (.iload_n 2, 1) := by decide +kernel
theorem dX3_take_30 : decode cX3_take 30 = .ok (.iadd, 1) := by decide +kernel
theorem dX3_take_31 : decode cX3_take 31 = .ok (.istore 4, 2) := by decide +kernel
theorem dX3_take_33 : decode cX3_take 33 = .ok (.aload_n 0, 1) := by decide +kernel
theorem dX3_take_34 : decode cX3_take 34 = .ok (.getfield 9, 3) := by decide +kernel
theorem dX3_take_37 : decode cX3_take 37 = .ok (.iload 4, 2) := by decide +kernel
theorem dX3_take_39 : decode cX3_take 39 = .ok (.aload_n 3, 1) := by decide +kernel
theorem dX3_take_40 : decode cX3_take 40 = .ok (.getfield 38, 3) := by decide +kernel
theorem dX3_take_43 : decode cX3_take 43 = .ok (.lastore, 1) := by decide +kernel
theorem dX3_take_44 : decode cX3_take 44 = .ok (.aload_n 0, 1) := by decide +kernel
theorem dX3_take_45 : decode cX3_take 45 = .ok (.getfield 15, 3) := by decide +kernel
theorem dX3_take_48 : decode cX3_take 48 = .ok (.iload 4, 2) := by decide +kernel
theorem dX3_take_50 : decode cX3_take 50 = .ok (.aload_n 3, 1) := by decide +kernel
theorem dX3_take_51 : decode cX3_take 51 = .ok (.getfield 43, 3) := by decide +kernel
theorem dX3_take_54 : decode cX3_take 54 = .ok (.lastore, 1) := by decide +kernel
theorem dX3_take_55 : decode cX3_take 55 = .ok (.aload_n 0, 1) := by decide +kernel
theorem dX3_take_56 : decode cX3_take 56 = .ok (.getfield 18, 3) := by decide +kernel
theorem dX3_take_59 : decode cX3_take 59 = .ok (.iload 4, 2) := by decide +kernel
theorem dX3_take_61 : decode cX3_take 61 = .ok (.aload_n 3, 1) := by decide +kernel
theorem dX3_take_62 : decode cX3_take 62 = .ok (.getfield 45, 3) := by decide +kernel
theorem dX3_take_65 : decode cX3_take 65 = .ok (.lastore, 1) := by decide +kernel
theorem dX3_take_66 : decode cX3_take 66 = .ok (.aload_n 0, 1) := by decide +kernel
theorem dX3_take_67 : decode cX3_take 67 = .ok (.getfield 21, 3) := by decide +kernel
theorem dX3_take_70 : decode cX3_take 70 = .ok (.iload_n 2, 1) := by decide +kernel
theorem dX3_take_71 : decode cX3_take 71 = .ok (.iaload, 1) := by decide +kernel
theorem dX3_take_72 : decode cX3_take 72 = .ok (.ifCond .lt 22, 3) := by decide +kernel
theorem dX3_take_75 : decode cX3_take 75 = .ok (.aload_n 0, 1) := by decide +kernel
theorem dX3_take_76 : decode cX3_take 76 = .ok (.aload_n 0, 1) := by decide +kernel
theorem dX3_take_77 : decode cX3_take 77 = .ok (.getfield 9, 3) := by decide +kernel
theorem dX3_take_80 : decode cX3_take 80 = .ok (.iload 4, 2) := by decide +kernel
theorem dX3_take_82 : decode cX3_take 82 = .ok (.aload_n 0, 1) := by decide +kernel
theorem dX3_take_83 : decode cX3_take 83 = .ok (.getfield 21, 3) := by decide +kernel
theorem dX3_take_86 : decode cX3_take 86 = .ok (.iload_n 2, 1) := by decide +kernel
theorem dX3_take_87 : decode cX3_take 87 = .ok (.iaload, 1) := by decide +kernel
theorem dX3_take_88 : decode cX3_take 88 = .ok (.invokevirtual 48, 3) := by decide +kernel
theorem dX3_take_91 : decode cX3_take 91 = .ok (.ifCond .le 11, 3) := by decide +kernel
theorem dX3_take_94 : decode cX3_take 94 = .ok (.aload_n 0, 1) := by decide +kernel
theorem dX3_take_95 : decode cX3_take 95 = .ok (.getfield 21, 3) := by decide +kernel
theorem dX3_take_98 : decode cX3_take 98 = .ok (.iload_n 2, 1) := by decide +kernel
theorem dX3_take_99 : decode cX3_take 99 = .ok (.iload 4, 2) := by decide +kernel
theorem dX3_take_101 : decode cX3_take 101 = .ok (.iastore, 1) := by decide +kernel
theorem dX3_take_102 : decode cX3_take 102 = .ok (.aload_n 0, 1) := by decide +kernel
theorem dX3_take_103 : decode cX3_take 103 = .ok (.getfield 25, 3) := by decide +kernel
theorem dX3_take_106 : decode cX3_take 106 = .ok (.iload_n 1, 1) := by decide +kernel
theorem dX3_take_107 : decode cX3_take 107 = .ok (.iaload, 1) := by decide +kernel
theorem dX3_take_108 : decode cX3_take 108 = .ok (.ifCond .lt 22, 3) := by decide +kernel
theorem dX3_take_111 : decode cX3_take 111 = .ok (.aload_n 0, 1) := by decide +kernel
theorem dX3_take_112 : decode cX3_take 112 = .ok (.aload_n 0, 1) := by decide +kernel
theorem dX3_take_113 : decode cX3_take 113 = .ok (.getfield 15, 3) := by decide +kernel
theorem dX3_take_116 : decode cX3_take 116 = .ok (.iload 4, 2) := by decide +kernel
theorem dX3_take_118 : decode cX3_take 118 = .ok (.aload_n 0, 1) := by decide +kernel
theorem dX3_take_119 : decode cX3_take 119 = .ok (.getfield 25, 3) := by decide +kernel
theorem dX3_take_122 : decode cX3_take 122 = .ok (.iload_n 1, 1) := by decide +kernel
theorem dX3_take_123 : decode cX3_take 123 = .ok (.iaload, 1) := by decide +kernel
theorem dX3_take_124 : decode cX3_take 124 = .ok (.invokevirtual 48, 3) := by decide +kernel
theorem dX3_take_127 : decode cX3_take 127 = .ok (.ifCond .le 11, 3) := by decide +kernel
theorem dX3_take_130 : decode cX3_take 130 = .ok (.aload_n 0, 1) := by decide +kernel
theorem dX3_take_131 : decode cX3_take 131 = .ok (.getfield 25, 3) := by decide +kernel
theorem dX3_take_134 : decode cX3_take 134 = .ok (.iload_n 1, 1) := by decide +kernel
theorem dX3_take_135 : decode cX3_take 135 = .ok (.iload 4, 2) := by decide +kernel
theorem dX3_take_137 : decode cX3_take 137 = .ok (.iastore, 1) := by decide +kernel
theorem dX3_take_138 : decode cX3_take 138 = .ok (.return_, 1) := by decide +kernel
theorem dX3_compareOdds_0 : decode cX3_compareOdds 0 = .ok (.iload_n 2, 1) := by decide +kernel
theorem dX3_compareOdds_1 : decode cX3_compareOdds 1 = .ok (.ifCond .lt 19, 3) := by decide +kernel
theorem dX3_compareOdds_4 : decode cX3_compareOdds 4 = .ok (.iload_n 2, 1) := by decide +kernel
theorem dX3_compareOdds_5 : decode cX3_compareOdds 5 = .ok (.aload_n 1, 1) := by decide +kernel
theorem dX3_compareOdds_6 : decode cX3_compareOdds 6 = .ok (.arraylength, 1) := by decide +kernel
theorem dX3_compareOdds_7 : decode cX3_compareOdds 7 = .ok (.if_icmp .ge 13, 3) := by decide +kernel
theorem dX3_compareOdds_10 : decode cX3_compareOdds 10 = .ok (.iload_n 3, 1) := by decide +kernel
theorem dX3_compareOdds_11 : decode cX3_compareOdds 11 = .ok (.ifCond .lt 9, 3) := by decide +kernel
theorem dX3_compareOdds_14 : decode cX3_compareOdds 14 = .ok (.iload_n 3, 1) := by decide +kernel
theorem dX3_compareOdds_15 : decode cX3_compareOdds 15 = .ok (.aload_n 1, 1) := by decide +kernel
theorem dX3_compareOdds_16 : decode cX3_compareOdds 16 = .ok (.arraylength, 1) := by decide +kernel
theorem dX3_compareOdds_17 : decode cX3_compareOdds 17 = .ok (.if_icmp .lt 5, 3) := by decide +kernel
theorem dX3_compareOdds_20 : decode cX3_compareOdds 20 = .ok (.iconst 0, 1) := by decide +kernel
theorem dX3_compareOdds_21 : decode cX3_compareOdds 21 = .ok (.ireturn, 1) := by decide +kernel
theorem dX3_compareOdds_22 : decode cX3_compareOdds 22 = .ok (.aload_n 1, 1) := by decide +kernel
theorem dX3_compareOdds_23 : decode cX3_compareOdds 23 = .ok (.iload_n 2, 1) := by decide +kernel
theorem dX3_compareOdds_24 : decode cX3_compareOdds 24 = .ok (.laload, 1) := by decide +kernel
theorem dX3_compareOdds_25 : decode cX3_compareOdds 25 = .ok (.aload_n 0, 1) := by decide +kernel
theorem dX3_compareOdds_26 : decode cX3_compareOdds 26 = .ok (.getfield 18, 3) := by decide +kernel
theorem dX3_compareOdds_29 : decode cX3_compareOdds 29 = .ok (.iload_n 2, 1) := by decide +kernel
theorem dX3_compareOdds_30 : decode cX3_compareOdds 30 = .ok (.laload, 1) := by decide +kernel
theorem dX3_compareOdds_31 : decode cX3_compareOdds 31 = .ok (.aload_n 1, 1) := by decide +kernel
theorem dX3_compareOdds_32 : decode cX3_compareOdds 32 = .ok (.iload_n 3, 1) := by decide +kernel
theorem dX3_compareOdds_33 : decode cX3_compareOdds 33 = .ok (.laload, 1) := by decide +kernel
theorem dX3_compareOdds_34 : decode cX3_compareOdds 34 = .ok (.aload_n 0, 1) := by decide +kernel
theorem dX3_compareOdds_35 : decode cX3_compareOdds 35 = .ok (.getfield 18, 3) := by decide +kernel
theorem dX3_compareOdds_38 : decode cX3_compareOdds 38 = .ok (.iload_n 3, 1) := by decide +kernel
theorem dX3_compareOdds_39 : decode cX3_compareOdds 39 = .ok (.laload, 1) := by decide +kernel
theorem dX3_compareOdds_40 : decode cX3_compareOdds 40 = .ok (.invokestatic 52, 3) := by decide +kernel
theorem dX3_compareOdds_43 : decode cX3_compareOdds 43 = .ok (.ireturn, 1) := by decide +kernel
theorem dX3_firstPair_0 : decode cX3_firstPair 0 = .ok (.aload_n 0, 1) := by decide +kernel
theorem dX3_firstPair_1 : decode cX3_firstPair 1 = .ok (.iconst 0, 1) := by decide +kernel
theorem dX3_firstPair_2 : decode cX3_firstPair 2 = .ok (.putfield 58, 3) := by decide +kernel
theorem dX3_firstPair_5 : decode cX3_firstPair 5 = .ok (.iconst 0, 1) := by decide +kernel
theorem dX3_firstPair_6 : decode cX3_firstPair 6 = .ok (.istore_n 1, 1) := by decide +kernel
theorem dX3_firstPair_7 : decode cX3_firstPair 7 = .ok (.iconst 0, 1) := by decide +kernel
theorem dX3_firstPair_8 : decode cX3_firstPair 8 = .ok (.istore_n 2, 1) := by decide +kernel
theorem dX3_firstPair_9 : decode cX3_firstPair 9 = .ok (.iload_n 2, 1) := by decide +kernel
theorem dX3_firstPair_10 : decode cX3_firstPair 10 = .ok (.aload_n 0, 1) := by decide +kernel
theorem dX3_firstPair_11 : decode cX3_firstPair 11 = .ok (.getfield 34, 3) := by decide +kernel
theorem dX3_firstPair_14 : decode cX3_firstPair 14 = .ok (.if_icmp .ge 95, 3) := by decide +kernel
theorem dX3_firstPair_17 : decode cX3_firstPair 17 = .ok (.iconst 0, 1) := by decide +kernel
theorem dX3_firstPair_18 : decode cX3_firstPair 18 = .ok (.istore_n 3, 1) := by decide +kernel
theorem dX3_firstPair_19 : decode cX3_firstPair 19 = .ok (.iload_n 3, 1) := by decide +kernel
theorem dX3_firstPair_20 : decode cX3_firstPair 20 = .ok (.aload_n 0, 1) := by decide +kernel
theorem dX3_firstPair_21 : decode cX3_firstPair 21 = .ok (.getfield 34, 3) := by decide +kernel
theorem dX3_firstPair_24 : decode cX3_firstPair 24 = .ok (.if_icmp .ge 79, 3) := by decide +kernel
theorem dX3_firstPair_27 : decode cX3_firstPair 27 = .ok (.iload_n 2, 1) := by decide +kernel
theorem dX3_firstPair_28 : decode cX3_firstPair 28 = .ok (.bipush 24, 2) := by decide +kernel
theorem dX3_firstPair_30 : decode cX3_firstPair 30 = .ok (.imul, 1) := by decide +kernel
theorem dX3_firstPair_31 : decode cX3_firstPair 31 = .ok (.iload_n 3, 1) := by decide +kernel
theorem dX3_firstPair_32 : decode cX3_firstPair 32 = .ok (.iadd, 1) := by decide +kernel
theorem dX3_firstPair_33 : decode cX3_firstPair 33 = .ok (.istore 4, 2) := by decide +kernel
theorem dX3_firstPair_35 : decode cX3_firstPair 35 = .ok (.aload_n 0, 1) := by decide +kernel
theorem dX3_firstPair_36 : decode cX3_firstPair 36 = .ok (.aload_n 0, 1) := by decide +kernel
theorem dX3_firstPair_37 : decode cX3_firstPair 37 = .ok (.getfield 9, 3) := by decide +kernel
theorem dX3_firstPair_40 : decode cX3_firstPair 40 = .ok (.iload 4, 2) := by decide +kernel
theorem dX3_firstPair_42 : decode cX3_firstPair 42 = .ok (.aload_n 0, 1) := by decide +kernel
theorem dX3_firstPair_43 : decode cX3_firstPair 43 = .ok (.getfield 21, 3) := by decide +kernel
theorem dX3_firstPair_46 : decode cX3_firstPair 46 = .ok (.iload_n 3, 1) := by decide +kernel
theorem dX3_firstPair_47 : decode cX3_firstPair 47 = .ok (.iaload, 1) := by decide +kernel
theorem dX3_firstPair_48 : decode cX3_firstPair 48 = .ok (.invokevirtual 48, 3) := by decide +kernel
theorem dX3_firstPair_51 : decode cX3_firstPair 51 = .ok (.ifCond .ne 46, 3) := by decide +kernel
theorem dX3_firstPair_54 : decode cX3_firstPair 54 = .ok (.aload_n 0, 1) := by decide +kernel
theorem dX3_firstPair_55 : decode cX3_firstPair 55 = .ok (.aload_n 0, 1) := by decide +kernel
theorem dX3_firstPair_56 : decode cX3_firstPair 56 = .ok (.getfield 15, 3) := by decide +kernel
theorem dX3_firstPair_59 : decode cX3_firstPair 59 = .ok (.iload 4, 2) := by decide +kernel
theorem dX3_firstPair_61 : decode cX3_firstPair 61 = .ok (.aload_n 0, 1) := by decide +kernel
theorem dX3_firstPair_62 : decode cX3_firstPair 62 = .ok (.getfield 25, 3) := by decide +kernel
theorem dX3_firstPair_65 : decode cX3_firstPair 65 = .ok (.iload_n 2, 1) := by decide +kernel
theorem dX3_firstPair_66 : decode cX3_firstPair 66 = .ok (.iaload, 1) := by decide +kernel
theorem dX3_firstPair_67 : decode cX3_firstPair 67 = .ok (.invokevirtual 48, 3) := by decide +kernel
theorem dX3_firstPair_70 : decode cX3_firstPair 70 = .ok (.ifCond .ne 27, 3) := by decide +kernel
theorem dX3_firstPair_73 : decode cX3_firstPair 73 = .ok (.aload_n 0, 1) := by decide +kernel
theorem dX3_firstPair_74 : decode cX3_firstPair 74 = .ok (.getfield 58, 3) := by decide +kernel
theorem dX3_firstPair_77 : decode cX3_firstPair 77 = .ok (.ifCond .ne 8, 3) := by decide +kernel
theorem dX3_firstPair_80 : decode cX3_firstPair 80 = .ok (.iload 4, 2) := by decide +kernel
theorem dX3_firstPair_82 : decode cX3_firstPair 82 = .ok (.goto 4, 3) := by decide +kernel
theorem dX3_firstPair_85 : decode cX3_firstPair 85 = .ok (.iload_n 1, 1) := by decide +kernel
theorem dX3_firstPair_86 : decode cX3_firstPair 86 = .ok (.istore_n 1, 1) := by decide +kernel
theorem dX3_firstPair_87 : decode cX3_firstPair 87 = .ok (.aload_n 0, 1) := by decide +kernel
theorem dX3_firstPair_88 : decode cX3_firstPair 88 = .ok (.dup, 1) := by decide +kernel
theorem dX3_firstPair_89 : decode cX3_firstPair 89 = .ok (.getfield 58, 3) := by decide +kernel
theorem dX3_firstPair_92 : decode cX3_firstPair 92 = .ok (.iconst 1, 1) := by decide +kernel
theorem dX3_firstPair_93 : decode cX3_firstPair 93 = .ok (.iadd, 1) := by decide +kernel
theorem dX3_firstPair_94 : decode cX3_firstPair 94 = .ok (.putfield 58, 3) := by decide +kernel
theorem dX3_firstPair_97 : decode cX3_firstPair 97 = .ok (.iinc 3 1, 3) := by decide +kernel
theorem dX3_firstPair_100 : decode cX3_firstPair 100 = .ok (.goto (-81), 3) := by decide +kernel
theorem dX3_firstPair_103 : decode cX3_firstPair 103 = .ok (.iinc 2 1, 3) := by decide +kernel
theorem dX3_firstPair_106 : decode cX3_firstPair 106 = .ok (.goto (-97), 3) := by decide +kernel
theorem dX3_firstPair_109 : decode cX3_firstPair 109 = .ok (.iload_n 1, 1) := by decide +kernel
theorem dX3_firstPair_110 : decode cX3_firstPair 110 = .ok (.ireturn, 1) := by decide +kernel
theorem dX4_init_0 : decode cX4_init 0 = .ok (.aload_n 0, 1) := by decide +kernel
theorem dX4_init_1 : decode cX4_init 1 = .ok (.invokespecial 3, 3) := by decide +kernel
theorem dX4_init_4 : decode cX4_init 4 = .ok (.aload_n 0, 1) := by decide +kernel
theorem dX4_init_5 : decode cX4_init 5 = .ok (.iconst 4, 1) := by decide +kernel
theorem dX4_init_6 : decode cX4_init 6 = .ok (.newarray .int, 2) := by decide +kernel
theorem dX4_init_8 : decode cX4_init 8 = .ok (.putfield 9, 3) := by decide +kernel
theorem dX4_init_11 : decode cX4_init 11 = .ok (.aload_n 0, 1) := by decide +kernel
theorem dX4_init_12 : decode cX4_init 12 = .ok (.bipush 10, 2) := by decide +kernel
theorem dX4_init_14 : decode cX4_init 14 = .ok (.newarray .int, 2) := by decide +kernel
theorem dX4_init_16 : decode cX4_init 16 = .ok (.putfield 15, 3) := by decide +kernel
theorem dX4_init_19 : decode cX4_init 19 = .ok (.return_, 1) := by decide +kernel
theorem dX4_copyFrom_0 : decode cX4_copyFrom 0 = .ok (.aload_n 0, 1) := by decide +kernel
theorem dX4_copyFrom_1 : decode cX4_copyFrom 1 = .ok (.aload_n 1, 1) := by decide +kernel
theorem dX4_copyFrom_2 : decode cX4_copyFrom 2 = .ok (.getfield 18, 3) := by decide +kernel
theorem dX4_copyFrom_5 : decode cX4_copyFrom 5 = .ok (.putfield 18, 3) := by decide +kernel
theorem dX4_copyFrom_8 : decode cX4_copyFrom 8 = .ok (.aload_n 0, 1) := by decide +kernel
theorem dX4_copyFrom_9 : decode cX4_copyFrom 9 = .ok (.aload_n 1, 1) := by decide +kernel
theorem dX4_copyFrom_10 : decode cX4_copyFrom 10 = .ok (.getfield 22, 3) := by decide +kernel
theorem dX4_copyFrom_13 : decode cX4_copyFrom 13 = .ok (.putfield 22, 3) := by decide +kernel
theorem dX4_copyFrom_16 : decode cX4_copyFrom 16 = .ok (.aload_n 0, 1) := by decide +kernel
theorem dX4_copyFrom_17 : decode cX4_copyFrom 17 = .ok (.aload_n 1, 1) := by decide +kernel
theorem dX4_copyFrom_18 : decode cX4_copyFrom 18 = .ok (.getfield 25, 3) := by decide +kernel
theorem dX4_copyFrom_21 : decode cX4_copyFrom 21 = .ok (.putfield 25, 3) := by decide +kernel
theorem dX4_copyFrom_24 : decode cX4_copyFrom 24 = .ok (.aload_n 0, 1) := by decide +kernel
theorem dX4_copyFrom_25 : decode cX4_copyFrom 25 = .ok (.aload_n 1, 1) := by decide +kernel
theorem dX4_copyFrom_26 : decode cX4_copyFrom 26 = .ok (.getfield 28, 3) := by decide +kernel
theorem dX4_copyFrom_29 : decode cX4_copyFrom 29 = .ok (.putfield 28, 3) := by decide +kernel
theorem dX4_copyFrom_32 : decode cX4_copyFrom 32 = .ok (.aload_n 0, 1) := by decide +kernel
theorem dX4_copyFrom_33 : decode cX4_copyFrom 33 = .ok (.aload_n 1, 1) := by decide +kernel
theorem dX4_copyFrom_34 : decode cX4_copyFrom 34 = .ok (.getfield 31, 3) := by decide +kernel
theorem dX4_copyFrom_37 : decode cX4_copyFrom 37 = .ok (.putfield 31, 3) := by decide +kernel
theorem dX4_copyFrom_40 : decode cX4_copyFrom 40 = .ok (.aload_n 0, 1) := by decide +kernel
theorem dX4_copyFrom_41 : decode cX4_copyFrom 41 = .ok (.aload_n 1, 1) := by decide +kernel
theorem dX4_copyFrom_42 : decode cX4_copyFrom 42 = .ok (.getfield 35, 3) := by decide +kernel
theorem dX4_copyFrom_45 : decode cX4_copyFrom 45 = .ok (.putfield 35, 3) := by decide +kernel
theorem dX4_copyFrom_48 : decode cX4_copyFrom 48 = .ok (.aload_n 0, 1) := by decide +kernel
theorem dX4_copyFrom_49 : decode cX4_copyFrom 49 = .ok (.aload_n 1, 1) := by decide +kernel
theorem dX4_copyFrom_50 : decode cX4_copyFrom 50 = .ok (.getfield 38, 3) := by decide +kernel
theorem dX4_copyFrom_53 : decode cX4_copyFrom 53 = .ok (.putfield 38, 3) := by decide +kernel
theorem dX4_copyFrom_56 : decode cX4_copyFrom 56 = .ok (.aload_n 0, 1) := by decide +kernel
theorem dX4_copyFrom_57 : decode cX4_copyFrom 57 = .ok (.aload_n 1, 1) := by decide +kernel
theorem dX4_copyFrom_58 : decode cX4_copyFrom 58 = .ok (.getfield 41, 3) := by decide +kernel
theorem dX4_copyFrom_61 : decode cX4_copyFrom 61 = .ok (.putfield 41, 3) := by decide +kernel
theorem dX4_copyFrom_64 : decode cX4_copyFrom 64 = .ok (.iconst 0, 1) := by decide +kernel
theorem dX4_copyFrom_65 : decode cX4_copyFrom 65 = .ok (.istore_n 2, 1) := by decide +kernel
theorem dX4_copyFrom_66 : decode cX4_copyFrom 66 = .ok (.iload_n 2, 1) := by decide +kernel
theorem dX4_copyFrom_67 : decode cX4_copyFrom 67 = .ok (.aload_n 0, 1) := by decide +kernel
theorem dX4_copyFrom_68 : decode cX4_copyFrom 68 = .ok (.getfield 9, 3) := by decide +kernel
theorem dX4_copyFrom_71 : decode cX4_copyFrom 71 = .ok (.arraylength, 1) := by decide +kernel
theorem dX4_copyFrom_72 : decode cX4_copyFrom 72 = .ok (.if_icmp .ge 21, 3) := by decide +kernel
theorem dX4_copyFrom_75 : decode cX4_copyFrom 75 = .ok (.aload_n 0, 1) := by decide +kernel
theorem dX4_copyFrom_76 : decode cX4_copyFrom 76 = .ok (.getfield 9, 3) := by decide +kernel
theorem dX4_copyFrom_79 : decode cX4_copyFrom 79 = .ok (.iload_n 2, 1) := by decide +kernel
theorem dX4_copyFrom_80 : decode cX4_copyFrom 80 = .ok (.aload_n 1, 1) := by decide +kernel
theorem dX4_copyFrom_81 : decode cX4_copyFrom 81 = .ok (.getfield 9, 3) := by decide +kernel
theorem dX4_copyFrom_84 : decode cX4_copyFrom 84 = .ok (.iload_n 2, 1) := by decide +kernel
theorem dX4_copyFrom_85 : decode cX4_copyFrom 85 = .ok (.iaload, 1) := by decide +kernel
theorem dX4_copyFrom_86 : decode cX4_copyFrom 86 = .ok (.iastore, 1) := by decide +kernel
theorem dX4_copyFrom_87 : decode cX4_copyFrom 87 = .ok (.iinc 2 1, 3) := by decide +kernel
theorem dX4_copyFrom_90 : decode cX4_copyFrom 90 = .ok (.goto (-24), 3) := by decide +kernel
theorem dX4_copyFrom_93 : decode cX4_copyFrom 93 = .ok (.iconst 0, 1) := by decide +kernel
theorem dX4_copyFrom_94 : decode cX4_copyFrom 94 = .ok (.istore_n 2, 1) := by decide +kernel
theorem dX4_copyFrom_95 : decode cX4_copyFrom 95 = .ok (.iload_n 2, 1) := by decide +kernel
theorem dX4_copyFrom_96 : decode cX4_copyFrom 96 = .ok (.aload_n 0, 1) := by decide +kernel
theorem dX4_copyFrom_97 : decode cX4_copyFrom 97 = .ok (.getfield 15, 3) := by decide +kernel
theorem dX4_copyFrom_100 : decode cX4_copyFrom 100 = .ok (.arraylength, 1) := by decide +kernel
theorem dX4_copyFrom_101 : decode cX4_copyFrom 101 = .ok (.if_icmp .ge 21, 3) := by decide +kernel
theorem dX4_copyFrom_104 : decode cX4_copyFrom 104 = .ok (.aload_n 0, 1) := by decide +kernel
theorem dX4_copyFrom_105 : decode cX4_copyFrom 105 = .ok (.getfield 15, 3) := by decide +kernel
theorem dX4_copyFrom_108 : decode cX4_copyFrom 108 = .ok (.iload_n 2, 1) := by decide +kernel
theorem dX4_copyFrom_109 : decode cX4_copyFrom 109 = .ok (.aload_n 1, 1) := by decide +kernel
theorem dX4_copyFrom_110 : decode cX4_copyFrom 110 = .ok (.getfield 15, 3) := by decide +kernel
theorem dX4_copyFrom_113 : decode cX4_copyFrom 113 = .ok (.iload_n 2, 1) := by decide +kernel
theorem dX4_copyFrom_114 : decode cX4_copyFrom 114 = .ok (.iaload, 1) := by decide +kernel
theorem dX4_copyFrom_115 : decode cX4_copyFrom 115 = .ok (.iastore, 1) := by decide +kernel
theorem dX4_copyFrom_116 : decode cX4_copyFrom 116 = .ok (.iinc 2 1, 3) := by decide +kernel
theorem dX4_copyFrom_119 : decode cX4_copyFrom 119 = .ok (.goto (-24), 3) := by decide +kernel
theorem dX4_copyFrom_122 : decode cX4_copyFrom 122 = .ok (.return_, 1) := by decide +kernel
theorem dX4_forgetAll_0 : decode cX4_forgetAll 0 = .ok (.aload_n 0, 1) := by decide +kernel
theorem dX4_forgetAll_1 : decode cX4_forgetAll 1 = .ok (.invokevirtual 44, 3) := by decide +kernel
theorem dX4_forgetAll_4 : decode cX4_forgetAll 4 = .ok (.aload_n 0, 1) := by decide +kernel
theorem dX4_forgetAll_5 : decode cX4_forgetAll 5 = .ok (.iconst 0, 1) := by decide +kernel
theorem dX4_forgetAll_6 : decode cX4_forgetAll 6 = .ok (.putfield 18, 3) := by decide +kernel
theorem dX4_forgetAll_9 : decode cX4_forgetAll 9 = .ok (.aload_n 0, 1) := by decide +kernel
theorem dX4_forgetAll_10 : decode cX4_forgetAll 10 = .ok (.iconst 0, 1) := by decide +kernel
theorem dX4_forgetAll_11 : decode cX4_forgetAll 11 = .ok (.putfield 22, 3) := by decide +kernel
theorem dX4_forgetAll_14 : decode cX4_forgetAll 14 = .ok (.aload_n 0, 1) := by decide +kernel
theorem dX4_forgetAll_15 : decode cX4_forgetAll 15 = .ok (.iconst 0, 1) := by decide +kernel
theorem dX4_forgetAll_16 : decode cX4_forgetAll 16 = .ok (.putfield 25, 3) := by decide +kernel
theorem dX4_forgetAll_19 : decode cX4_forgetAll 19 = .ok (.iconst 0, 1) := by decide +kernel
theorem dX4_forgetAll_20 : decode cX4_forgetAll 20 = .ok (.istore_n 1, 1) := by decide +kernel
theorem dX4_forgetAll_21 : decode cX4_forgetAll 21 = .ok (.iload_n 1, 1) := by decide +kernel
theorem dX4_forgetAll_22 : decode cX4_forgetAll 22 = .ok (.aload_n 0, 1) := by decide +kernel
theorem dX4_forgetAll_23 : decode cX4_forgetAll 23 = .ok (.getfield 9, 3) := by decide +kernel
theorem dX4_forgetAll_26 : decode cX4_forgetAll 26 = .ok (.arraylength, 1) := by decide +kernel
theorem dX4_forgetAll_27 : decode cX4_forgetAll 27 = .ok (.if_icmp .ge 16, 3) := by decide +kernel
theorem dX4_forgetAll_30 : decode cX4_forgetAll 30 = .ok (.aload_n 0, 1) := by decide +kernel
theorem dX4_forgetAll_31 : decode cX4_forgetAll 31 = .ok (.getfield 9, 3) := by decide +kernel
theorem dX4_forgetAll_34 : decode cX4_forgetAll 34 = .ok (.iload_n 1, 1) := by decide +kernel
theorem dX4_forgetAll_35 : decode cX4_forgetAll 35 = .ok (.iconst 0, 1) := by decide +kernel
theorem dX4_forgetAll_36 : decode cX4_forgetAll 36 = .ok (.iastore, 1) := by decide +kernel
theorem dX4_forgetAll_37 : decode cX4_forgetAll 37 = .ok (.iinc 1 1, 3) := by decide +kernel
theorem dX4_forgetAll_40 : decode cX4_forgetAll 40 = .ok (.goto (-19), 3) := by decide +kernel
theorem dX4_forgetAll_43 : decode cX4_forgetAll 43 = .ok (.iconst 0, 1) := by decide +kernel
theorem dX4_forgetAll_44 : decode cX4_forgetAll 44 = .ok (.istore_n 1, 1) := by decide +kernel
theorem dX4_forgetAll_45 : decode cX4_forgetAll 45 = .ok (.iload_n 1, 1) := by decide +kernel
theorem dX4_forgetAll_46 : decode cX4_forgetAll 46 = .ok (.aload_n 0, 1) := by decide +kernel
theorem dX4_forgetAll_47 : decode cX4_forgetAll 47 = .ok (.getfield 15, 3) := by decide +kernel
theorem dX4_forgetAll_50 : decode cX4_forgetAll 50 = .ok (.arraylength, 1) := by decide +kernel
theorem dX4_forgetAll_51 : decode cX4_forgetAll 51 = .ok (.if_icmp .ge 16, 3) := by decide +kernel
theorem dX4_forgetAll_54 : decode cX4_forgetAll 54 = .ok (.aload_n 0, 1) := by decide +kernel
theorem dX4_forgetAll_55 : decode cX4_forgetAll 55 = .ok (.getfield 15, 3) := by decide +kernel
theorem dX4_forgetAll_58 : decode cX4_forgetAll 58 = .ok (.iload_n 1, 1) := by decide +kernel
theorem dX4_forgetAll_59 : decode cX4_forgetAll 59 = .ok (.iconst 0, 1) := by decide +kernel
theorem dX4_forgetAll_60 : decode cX4_forgetAll 60 = .ok (.iastore, 1) := by decide +kernel
theorem dX4_forgetAll_61 : decode cX4_forgetAll 61 = .ok (.iinc 1 1, 3) := by decide +kernel
theorem dX4_forgetAll_64 : decode cX4_forgetAll 64 = .ok (.goto (-19), 3) := by decide +kernel
theorem dX4_forgetAll_67 : decode cX4_forgetAll 67 = .ok (.return_, 1) := by decide +kernel
theorem dX4_restart_0 : decode cX4_restart 0 = .ok (.aload_n 0, 1) := by decide +kernel
theorem dX4_restart_1 : decode cX4_restart 1 = .ok (.iconst 0, 1) := by decide +kernel
theorem dX4_restart_2 : decode cX4_restart 2 = .ok (.putfield 28, 3) := by decide +kernel
theorem dX4_restart_5 : decode cX4_restart 5 = .ok (.aload_n 0, 1) := by decide +kernel
theorem dX4_restart_6 : decode cX4_restart 6 = .ok (.lconst 0, 1) := by decide +kernel
theorem dX4_restart_7 : decode cX4_restart 7 = .ok (.putfield 31, 3) := by decide +kernel
theorem dX4_restart_10 : decode cX4_restart 10 = .ok (.aload_n 0, 1) := by decide +kernel
theorem dX4_restart_11 : decode cX4_restart 11 = .ok (.lconst 0, 1) := by decide +kernel
theorem dX4_restart_12 : decode cX4_restart 12 = .ok (.putfield 35, 3) := by decide +kernel
theorem dX4_restart_15 : decode cX4_restart 15 = .ok (.aload_n 0, 1) := by decide +kernel
theorem dX4_restart_16 : decode cX4_restart 16 = .ok (.iconst 0, 1) := by decide +kernel
theorem dX4_restart_17 : decode cX4_restart 17 = .ok (.putfield 38, 3) := by decide +kernel
theorem dX4_restart_20 : decode cX4_restart 20 = .ok (.aload_n 0, 1) := by decide +kernel
theorem dX4_restart_21 : decode cX4_restart 21 = .ok (.iconst 0, 1) := by decide +kernel
theorem dX4_restart_22 : decode cX4_restart 22 = .ok (.putfield 41, 3) := by decide +kernel
theorem dX4_restart_25 : decode cX4_restart 25 = .ok (.return_, 1) := by decide +kernel
theorem dX4_skillOf_0 : decode cX4_skillOf 0 = .ok (.iload_n 1, 1) := by decide +kernel
theorem dX4_skillOf_1 : decode cX4_skillOf 1 = .ok (.iconst 5, 1) := by decide +kernel
theorem dX4_skillOf_2 : decode cX4_skillOf 2 = .ok (.imul, 1) := by decide +kernel
theorem dX4_skillOf_3 : decode cX4_skillOf 3 = .ok (.iload_n 2, 1) := by decide +kernel
theorem dX4_skillOf_4 : decode cX4_skillOf 4 = .ok (.iadd, 1) := by decide +kernel
theorem dX4_skillOf_5 : decode cX4_skillOf 5 = .ok (.istore_n 3, 1) := by decide +kernel
theorem dX4_skillOf_6 : decode cX4_skillOf 6 = .ok (.iload_n 3, 1) := by decide +kernel
theorem dX4_skillOf_7 : decode cX4_skillOf 7 = .ok (.ifCond .lt 21, 3) := by decide +kernel
theorem dX4_skillOf_10 : decode cX4_skillOf 10 = .ok (.iload_n 3, 1) := by decide +kernel
theorem dX4_skillOf_11 : decode cX4_skillOf 11 = .ok (.aload_n 0, 1) := by decide +kernel
theorem dX4_skillOf_12 : decode cX4_skillOf 12 = .ok (.getfield 15, 3) := by decide +kernel
theorem dX4_skillOf_15 : decode cX4_skillOf 15 = .ok (.arraylength, 1) := by decide +kernel
theorem dX4_skillOf_16 : decode cX4_skillOf 16 = .ok (.if_icmp .ge 12, 3) := by decide +kernel
theorem dX4_skillOf_19 : decode cX4_skillOf 19 = .ok (.aload_n 0, 1) := by decide +kernel
theorem dX4_skillOf_20 : decode cX4_skillOf 20 = .ok (.getfield 15, 3) := by decide +kernel
theorem dX4_skillOf_23 : decode cX4_skillOf 23 = .ok (.iload_n 3, 1) := by decide +kernel
theorem dX4_skillOf_24 : decode cX4_skillOf 24 = .ok (.iaload, 1) := by decide +kernel
theorem dX4_skillOf_25 : decode cX4_skillOf 25 = .ok (.goto 4, 3) := by decide +kernel
theorem dX4_skillOf_28 : decode cX4_skillOf 28 = .ok (.iconst 0, 1) := by decide +kernel
theorem dX4_skillOf_29 : decode cX4_skillOf 29 = .ok (.ireturn, 1) := by decide +kernel
theorem dX4_setSkill_0 : decode cX4_setSkill 0 = .ok (.iload_n 1, 1) := by decide +kernel
theorem dX4_setSkill_1 : decode cX4_setSkill 1 = .ok (.iconst 5, 1) := by decide +kernel
theorem dX4_setSkill_2 : decode cX4_setSkill 2 = .ok (.imul, 1) := by decide +kernel
theorem dX4_setSkill_3 : decode cX4_setSkill 3 = .ok (.iload_n 2, 1) := by decide +kernel
theorem dX4_setSkill_4 : decode cX4_setSkill 4 = .ok (.iadd, 1) := by decide +kernel
theorem dX4_setSkill_5 : decode cX4_setSkill 5 = .ok (.istore 4, 2) := by decide +kernel
theorem dX4_setSkill_7 : decode cX4_setSkill 7 = .ok (.iload 4, 2) := by decide +kernel
theorem dX4_setSkill_9 : decode cX4_setSkill 9 = .ok (.ifCond .lt 21, 3) := by decide +kernel
theorem dX4_setSkill_12 : decode cX4_setSkill 12 = .ok (.iload 4, 2) := by decide +kernel
theorem dX4_setSkill_14 : decode cX4_setSkill 14 = .ok (.aload_n 0, 1) := by decide +kernel
theorem dX4_setSkill_15 : decode cX4_setSkill 15 = .ok (.getfield 15, 3) := by decide +kernel
theorem dX4_setSkill_18 : decode cX4_setSkill 18 = .ok (.arraylength, 1) := by decide +kernel
theorem dX4_setSkill_19 : decode cX4_setSkill 19 = .ok (.if_icmp .ge 11, 3) := by decide +kernel
theorem dX4_setSkill_22 : decode cX4_setSkill 22 = .ok (.aload_n 0, 1) := by decide +kernel
theorem dX4_setSkill_23 : decode cX4_setSkill 23 = .ok (.getfield 15, 3) := by decide +kernel
theorem dX4_setSkill_26 : decode cX4_setSkill 26 = .ok (.iload 4, 2) := by decide +kernel
theorem dX4_setSkill_28 : decode cX4_setSkill 28 = .ok (.iload_n 3, 1) := by decide +kernel
theorem dX4_setSkill_29 : decode cX4_setSkill 29 = .ok (.iastore, 1) := by decide +kernel
theorem dX4_setSkill_30 : decode cX4_setSkill 30 = .ok (.return_, 1) := by decide +kernel
theorem dX4_nerveOf_0 : decode cX4_nerveOf 0 = .ok (.iload_n 2, 1) := by decide +kernel
theorem dX4_nerveOf_1 : decode cX4_nerveOf 1 = .ok (.ifCond .eq 7, 3) := by decide +kernel
theorem dX4_nerveOf_4 : decode cX4_nerveOf 4 = .ok (.iconst 2, 1) := by decide +kernel
theorem dX4_nerveOf_5 : decode cX4_nerveOf 5 = .ok (.goto 4, 3) := by decide +kernel
theorem dX4_nerveOf_8 : decode cX4_nerveOf 8 = .ok (.iconst 0, 1) := by decide +kernel
theorem dX4_nerveOf_9 : decode cX4_nerveOf 9 = .ok (.iload_n 1, 1) := by decide +kernel
theorem dX4_nerveOf_10 : decode cX4_nerveOf 10 = .ok (.iadd, 1) := by decide +kernel
theorem dX4_nerveOf_11 : decode cX4_nerveOf 11 = .ok (.istore_n 3, 1) := by decide +kernel
theorem dX4_nerveOf_12 : decode cX4_nerveOf 12 = .ok (.iload_n 3, 1) := by decide +kernel
theorem dX4_nerveOf_13 : decode cX4_nerveOf 13 = .ok (.ifCond .lt 21, 3) := by decide +kernel
theorem dX4_nerveOf_16 : decode cX4_nerveOf 16 = .ok (.iload_n 3, 1) := by decide +kernel
theorem dX4_nerveOf_17 : decode cX4_nerveOf 17 = .ok (.aload_n 0, 1) := by decide +kernel
theorem dX4_nerveOf_18 : decode cX4_nerveOf 18 = .ok (.getfield 9, 3) := by decide +kernel
theorem dX4_nerveOf_21 : decode cX4_nerveOf 21 = .ok (.arraylength, 1) := by decide +kernel
theorem dX4_nerveOf_22 : decode cX4_nerveOf 22 = .ok (.if_icmp .ge 12, 3) := by decide +kernel
theorem dX4_nerveOf_25 : decode cX4_nerveOf 25 = .ok (.aload_n 0, 1) := by decide +kernel
theorem dX4_nerveOf_26 : decode cX4_nerveOf 26 = .ok (.getfield 9, 3) := by decide +kernel
theorem dX4_nerveOf_29 : decode cX4_nerveOf 29 = .ok (.iload_n 3, 1) := by decide +kernel
theorem dX4_nerveOf_30 : decode cX4_nerveOf 30 = .ok (.iaload, 1) := by decide +kernel
theorem dX4_nerveOf_31 : decode cX4_nerveOf 31 = .ok (.goto 4, 3) := by decide +kernel
theorem dX4_nerveOf_34 : decode cX4_nerveOf 34 = .ok (.iconst 0, 1) := by decide +kernel
theorem dX4_nerveOf_35 : decode cX4_nerveOf 35 = .ok (.ireturn, 1) := by decide +kernel
theorem dX4_setNerve_0 : decode cX4_setNerve 0 = .ok (.iload_n 2, 1) := by decide +kernel
theorem dX4_setNerve_1 : decode cX4_setNerve 1 = .ok (.ifCond .eq 7, 3) := by decide +kernel
theorem dX4_setNerve_4 : decode cX4_setNerve 4 = .ok (.iconst 2, 1) := by decide +kernel
theorem dX4_setNerve_5 : decode cX4_setNerve 5 = .ok (.goto 4, 3) := by decide +kernel
theorem dX4_setNerve_8 : decode cX4_setNerve 8 = .ok (.iconst 0, 1) := by decide +kernel
theorem dX4_setNerve_9 : decode cX4_setNerve 9 = .ok (.iload_n 1, 1) := by decide +kernel
theorem dX4_setNerve_10 : decode cX4_setNerve 10 = .ok (.iadd, 1) := by decide +kernel
theorem dX4_setNerve_11 : decode cX4_setNerve 11 = .ok (.istore 4, 2) := by decide +kernel
theorem dX4_setNerve_13 : decode cX4_setNerve 13 = .ok (.iload 4, 2) := by decide +kernel
theorem dX4_setNerve_15 : decode cX4_setNerve 15 = .ok (.ifCond .lt 21, 3) := by decide +kernel
theorem dX4_setNerve_18 : decode cX4_setNerve 18 = .ok (.iload 4, 2) := by decide +kernel
theorem dX4_setNerve_20 : decode cX4_setNerve 20 = .ok (.aload_n 0, 1) := by decide +kernel
theorem dX4_setNerve_21 : decode cX4_setNerve 21 = .ok (.getfield 9, 3) := by decide +kernel
theorem dX4_setNerve_24 : decode cX4_setNerve 24 = .ok (.arraylength, 1) := by decide +kernel
theorem dX4_setNerve_25 : decode cX4_setNerve 25 = .ok (.if_icmp .ge 11, 3) := by decide +kernel
theorem dX4_setNerve_28 : decode cX4_setNerve 28 = .ok (.aload_n 0, 1) := by decide +kernel
theorem dX4_setNerve_29 : decode cX4_setNerve 29 = .ok (.getfield 9, 3) := by decide +kernel
theorem dX4_setNerve_32 : decode cX4_setNerve 32 = .ok (.iload 4, 2) := by decide +kernel
theorem dX4_setNerve_34 : decode cX4_setNerve 34 = .ok (.iload_n 3, 1) := by decide +kernel
theorem dX4_setNerve_35 : decode cX4_setNerve 35 = .ok (.iastore, 1) := by decide +kernel
theorem dX4_setNerve_36 : decode cX4_setNerve 36 = .ok (.return_, 1) := by decide +kernel
theorem dX4_goalsOf_0 : decode cX4_goalsOf 0 = .ok (.iload_n 1, 1) := by decide +kernel
theorem dX4_goalsOf_1 : decode cX4_goalsOf 1 = .ok (.ifCond .ne 10, 3) := by decide +kernel
theorem dX4_goalsOf_4 : decode cX4_goalsOf 4 = .ok (.aload_n 0, 1) := by decide +kernel
theorem dX4_goalsOf_5 : decode cX4_goalsOf 5 = .ok (.getfield 38, 3) := by decide +kernel
theorem dX4_goalsOf_8 : decode cX4_goalsOf 8 = .ok (.goto 7, 3) := by decide +kernel
theorem dX4_goalsOf_11 : decode cX4_goalsOf 11 = .ok (.aload_n 0, 1) := by decide +kernel
theorem dX4_goalsOf_12 : decode cX4_goalsOf 12 = .ok (.getfield 41, 3) := by decide +kernel
theorem dX4_goalsOf_15 : decode cX4_goalsOf 15 = .ok (.ireturn, 1) := by decide +kernel
theorem dX4_kicksOf_0 : decode cX4_kicksOf 0 = .ok (.aload_n 0, 1) := by decide +kernel
theorem dX4_kicksOf_1 : decode cX4_kicksOf 1 = .ok (.getfield 28, 3) := by decide +kernel
theorem dX4_kicksOf_4 : decode cX4_kicksOf 4 = .ok (.iconst 2, 1) := by decide +kernel
theorem dX4_kicksOf_5 : decode cX4_kicksOf 5 = .ok (.idiv, 1) := by decide +kernel
theorem dX4_kicksOf_6 : decode cX4_kicksOf 6 = .ok (.aload_n 0, 1) := by decide +kernel
theorem dX4_kicksOf_7 : decode cX4_kicksOf 7 = .ok (.getfield 28, 3) := by decide +kernel
theorem dX4_kicksOf_10 : decode cX4_kicksOf 10 = .ok (.iconst 2, 1) := by decide +kernel
theorem dX4_kicksOf_11 : decode cX4_kicksOf 11 = .ok (.irem, 1) := by decide +kernel
theorem dX4_kicksOf_12 : decode cX4_kicksOf 12 = .ok (.iconst 1, 1) := by decide +kernel
theorem dX4_kicksOf_13 : decode cX4_kicksOf 13 = .ok (.if_icmp .ne 21, 3) := by decide +kernel
theorem dX4_kicksOf_16 : decode cX4_kicksOf 16 = .ok (.aload_n 0, 1) := by decide +kernel
theorem dX4_kicksOf_17 : decode cX4_kicksOf 17 = .ok (.aload_n 0, 1) := by decide +kernel
theorem dX4_kicksOf_18 : decode cX4_kicksOf 18 = .ok (.getfield 28, 3) := by decide +kernel
theorem dX4_kicksOf_21 : decode cX4_kicksOf 21 = .ok (.iconst 1, 1) := by decide +kernel
theorem dX4_kicksOf_22 : decode cX4_kicksOf 22 = .ok (.isub, 1) := by decide +kernel
theorem dX4_kicksOf_23 : decode cX4_kicksOf 23 = .ok (.invokevirtual 47, 3) := by decide +kernel
theorem dX4_kicksOf_26 : decode cX4_kicksOf 26 = .ok (.iload_n 1, 1) := by decide +kernel
theorem dX4_kicksOf_27 : decode cX4_kicksOf 27 = .ok (.if_icmp .ne 7, 3) := by decide +kernel
theorem dX4_kicksOf_30 : decode cX4_kicksOf 30 = .ok (.iconst 1, 1) := by decide +kernel
theorem dX4_kicksOf_31 : decode cX4_kicksOf 31 = .ok (.goto 4, 3) := by decide +kernel
theorem dX4_kicksOf_34 : decode cX4_kicksOf 34 = .ok (.iconst 0, 1) := by decide +kernel
theorem dX4_kicksOf_35 : decode cX4_kicksOf 35 = .ok (.iadd, 1) := by decide +kernel
theorem dX4_kicksOf_36 : decode cX4_kicksOf 36 = .ok (.ireturn, 1) := by decide +kernel
theorem dX4_sideOfKick_0 : decode cX4_sideOfKick 0 = .ok (.aload_n 0, 1) := by decide +kernel
theorem dX4_sideOfKick_1 : decode cX4_sideOfKick 1 = .ok (.getfield 35, 3) := by decide +kernel
theorem dX4_sideOfKick_4 : decode cX4_sideOfKick 4 = .ok (.iload_n 1, 1) := by decide +kernel
theorem dX4_sideOfKick_5 : decode cX4_sideOfKick 5 = .ok (.lushr, 1) := by decide +kernel
theorem dX4_sideOfKick_6 : decode cX4_sideOfKick 6 = .ok (.lconst 1, 1) := by decide +kernel
theorem dX4_sideOfKick_7 : decode cX4_sideOfKick 7 = .ok (.land, 1) := by decide +kernel
theorem dX4_sideOfKick_8 : decode cX4_sideOfKick 8 = .ok (.l2i, 1) := by decide +kernel
theorem dX4_sideOfKick_9 : decode cX4_sideOfKick 9 = .ok (.ireturn, 1) := by decide +kernel
theorem dX4_goalOfKick_0 : decode cX4_goalOfKick 0 = .ok (.aload_n 0, 1) := by decide +kernel
theorem dX4_goalOfKick_1 : decode cX4_goalOfKick 1 = .ok (.getfield 31, 3) := by decide +kernel
theorem dX4_goalOfKick_4 : decode cX4_goalOfKick 4 = .ok (.iload_n 1, 1) := by decide +kernel
theorem dX4_goalOfKick_5 : decode cX4_goalOfKick 5 = .ok (.lushr, 1) := by decide +kernel
theorem dX4_goalOfKick_6 : decode cX4_goalOfKick 6 = .ok (.lconst 1, 1) := by decide +kernel
theorem dX4_goalOfKick_7 : decode cX4_goalOfKick 7 = .ok (.land, 1) := by decide +kernel
theorem dX4_goalOfKick_8 : decode cX4_goalOfKick 8 = .ok (.l2i, 1) := by decide +kernel
theorem dX4_goalOfKick_9 : decode cX4_goalOfKick 9 = .ok (.ireturn, 1) := by decide +kernel
theorem dX4_lead_0 : decode cX4_lead 0 = .ok (.aload_n 0, 1) := by decide +kernel
theorem dX4_lead_1 : decode cX4_lead 1 = .ok (.getfield 38, 3) := by decide +kernel
theorem dX4_lead_4 : decode cX4_lead 4 = .ok (.aload_n 0, 1) := by decide +kernel
theorem dX4_lead_5 : decode cX4_lead 5 = .ok (.getfield 41, 3) := by decide +kernel
theorem dX4_lead_8 : decode cX4_lead 8 = .ok (.isub, 1) := by decide +kernel
theorem dX4_lead_9 : decode cX4_lead 9 = .ok (.ireturn, 1) := by decide +kernel
theorem dX4_round_0 : decode cX4_round 0 = .ok (.aload_n 0, 1) := by decide +kernel
theorem dX4_round_1 : decode cX4_round 1 = .ok (.getfield 28, 3) := by decide +kernel
theorem dX4_round_4 : decode cX4_round 4 = .ok (.iconst 2, 1) := by decide +kernel
theorem dX4_round_5 : decode cX4_round 5 = .ok (.idiv, 1) := by decide +kernel
theorem dX4_round_6 : decode cX4_round 6 = .ok (.ireturn, 1) := by decide +kernel
theorem dX4_shooter_0 : decode cX4_shooter 0 = .ok (.aload_n 0, 1) := by decide +kernel
theorem dX4_shooter_1 : decode cX4_shooter 1 = .ok (.getfield 18, 3) := by decide +kernel
theorem dX4_shooter_4 : decode cX4_shooter 4 = .ok (.ifCond .le 15, 3) := by decide +kernel
theorem dX4_shooter_7 : decode cX4_shooter 7 = .ok (.aload_n 0, 1) := by decide +kernel
theorem dX4_shooter_8 : decode cX4_shooter 8 = .ok (.invokevirtual 51, 3) := by decide +kernel
theorem dX4_shooter_11 : decode cX4_shooter 11 = .ok (.aload_n 0, 1) := by decide +kernel
theorem dX4_shooter_12 : decode cX4_shooter 12 = .ok (.getfield 18, 3) := by decide +kernel
theorem dX4_shooter_15 : decode cX4_shooter 15 = .ok (.irem, 1) := by decide +kernel
theorem dX4_shooter_16 : decode cX4_shooter 16 = .ok (.goto 4, 3) := by decide +kernel
theorem dX4_shooter_19 : decode cX4_shooter 19 = .ok (.iconst 0, 1) := by decide +kernel
theorem dX4_shooter_20 : decode cX4_shooter 20 = .ok (.ireturn, 1) := by decide +kernel
theorem dX4_chanceOf_0 : decode cX4_chanceOf 0 = .ok (.aload_n 0, 1) := by decide +kernel
theorem dX4_chanceOf_1 : decode cX4_chanceOf 1 = .ok (.iload_n 1, 1) := by decide +kernel
theorem dX4_chanceOf_2 : decode cX4_chanceOf 2 = .ok (.iload_n 2, 1) := by decide +kernel
theorem dX4_chanceOf_3 : decode cX4_chanceOf 3 = .ok (.invokevirtual 55, 3) := by decide +kernel
theorem dX4_chanceOf_6 : decode cX4_chanceOf 6 = .ok (.istore 4, 2) := by decide +kernel
theorem dX4_chanceOf_8 : decode cX4_chanceOf 8 = .ok (.iload_n 3, 1) := by decide +kernel
theorem dX4_chanceOf_9 : decode cX4_chanceOf 9 = .ok (.ifCond .eq 22, 3) := by decide +kernel
theorem dX4_chanceOf_12 : decode cX4_chanceOf 12 = .ok (.iload 4, 2) := by decide +kernel
theorem dX4_chanceOf_14 : decode cX4_chanceOf 14 = .ok (.aload_n 0, 1) := by decide +kernel
theorem dX4_chanceOf_15 : decode cX4_chanceOf 15 = .ok (.iload_n 1, 1) := by decide +kernel
theorem dX4_chanceOf_16 : decode cX4_chanceOf 16 = .ok (.iload_n 3, 1) := by decide +kernel
theorem dX4_chanceOf_17 : decode cX4_chanceOf 17 = .ok (.ifCond .le 7, 3) := by decide +kernel
theorem dX4_chanceOf_20 : decode cX4_chanceOf 20 = .ok (.iconst 1, 1) := by decide +kernel
theorem dX4_chanceOf_21 : decode cX4_chanceOf 21 = .ok (.goto 4, 3) := by decide +kernel
theorem dX4_chanceOf_24 : decode cX4_chanceOf 24 = .ok (.iconst 0, 1) := by decide +kernel
theorem dX4_chanceOf_25 : decode cX4_chanceOf 25 = .ok (.invokevirtual 59, 3) := by decide +kernel
theorem dX4_chanceOf_28 : decode cX4_chanceOf 28 = .ok (.iadd, 1) := by decide +kernel
theorem dX4_chanceOf_29 : decode cX4_chanceOf 29 = .ok (.istore 4, 2) := by decide +kernel
theorem dX4_chanceOf_31 : decode cX4_chanceOf 31 = .ok (.iload 4, 2) := by decide +kernel
theorem dX4_chanceOf_33 : decode cX4_chanceOf 33 = .ok (.ifCond .ge 7, 3) := by decide +kernel
theorem dX4_chanceOf_36 : decode cX4_chanceOf 36 = .ok (.iconst 0, 1) := by decide +kernel
theorem dX4_chanceOf_37 : decode cX4_chanceOf 37 = .ok (.goto 17, 3) := by decide +kernel
theorem dX4_chanceOf_40 : decode cX4_chanceOf 40 = .ok (.iload 4, 2) := by decide +kernel
theorem dX4_chanceOf_42 : decode cX4_chanceOf 42 = .ok (.bipush 6, 2) := by decide +kernel
theorem dX4_chanceOf_44 : decode cX4_chanceOf 44 = .ok (.if_icmp .le 8, 3) := by decide +kernel
theorem dX4_chanceOf_47 : decode cX4_chanceOf 47 = .ok (.bipush 6, 2) := by decide +kernel
theorem dX4_chanceOf_49 : decode cX4_chanceOf 49 = .ok (.goto 5, 3) := by decide +kernel
theorem dX4_chanceOf_52 : decode cX4_chanceOf 52 = .ok (.iload 4, 2) := by decide +kernel
theorem dX4_chanceOf_54 : decode cX4_chanceOf 54 = .ok (.ireturn, 1) := by decide +kernel
theorem dX4_leaderOf_0 : decode cX4_leaderOf 0 = .ok (.iload_n 1, 1) := by decide +kernel
theorem dX4_leaderOf_1 : decode cX4_leaderOf 1 = .ok (.ifCond .eq 11, 3) := by decide +kernel
theorem dX4_leaderOf_4 : decode cX4_leaderOf 4 = .ok (.iload_n 1, 1) := by decide +kernel
theorem dX4_leaderOf_5 : decode cX4_leaderOf 5 = .ok (.aload_n 0, 1) := by decide +kernel
theorem dX4_leaderOf_6 : decode cX4_leaderOf 6 = .ok (.getfield 18, 3) := by decide +kernel
theorem dX4_leaderOf_9 : decode cX4_leaderOf 9 = .ok (.if_icmp .lt 8, 3) := by decide +kernel
theorem dX4_leaderOf_12 : decode cX4_leaderOf 12 = .ok (.aload_n 0, 1) := by decide +kernel
theorem dX4_leaderOf_13 : decode cX4_leaderOf 13 = .ok (.getfield 25, 3) := by decide +kernel
theorem dX4_leaderOf_16 : decode cX4_leaderOf 16 = .ok (.ireturn, 1) := by decide +kernel
theorem dX4_leaderOf_17 : decode cX4_leaderOf 17 = .ok (.aload_n 0, 1) := by decide +kernel
theorem dX4_leaderOf_18 : decode cX4_leaderOf 18 = .ok (.getfield 22, 3) := by decide +kernel
theorem dX4_leaderOf_21 : decode cX4_leaderOf 21 = .ok (.tableswitch 90 1 3 #[27, 47, 70], 27) := by decide +kernel
theorem dX4_leaderOf_48 : decode cX4_leaderOf 48 = .ok (.iload_n 1, 1) := by decide +kernel
theorem dX4_leaderOf_49 : decode cX4_leaderOf 49 = .ok (.iconst 2, 1) := by decide +kernel
theorem dX4_leaderOf_50 : decode cX4_leaderOf 50 = .ok (.irem, 1) := by decide +kernel
theorem dX4_leaderOf_51 : decode cX4_leaderOf 51 = .ok (.ifCond .ne 10, 3) := by decide +kernel
theorem dX4_leaderOf_54 : decode cX4_leaderOf 54 = .ok (.aload_n 0, 1) := by decide +kernel
theorem dX4_leaderOf_55 : decode cX4_leaderOf 55 = .ok (.getfield 25, 3) := by decide +kernel
theorem dX4_leaderOf_58 : decode cX4_leaderOf 58 = .ok (.goto 9, 3) := by decide +kernel
theorem dX4_leaderOf_61 : decode cX4_leaderOf 61 = .ok (.iconst 1, 1) := by decide +kernel
theorem dX4_leaderOf_62 : decode cX4_leaderOf 62 = .ok (.aload_n 0, 1) := by decide +kernel
theorem dX4_leaderOf_63 : decode cX4_leaderOf 63 = .ok (.getfield 25, 3) := by decide +kernel
theorem dX4_leaderOf_66 : decode cX4_leaderOf 66 = .ok (.isub, 1) := by decide +kernel
theorem dX4_leaderOf_67 : decode cX4_leaderOf 67 = .ok (.ireturn, 1) := by decide +kernel
theorem dX4_leaderOf_68 : decode cX4_leaderOf 68 = .ok (.iload_n 1, 1) := by decide +kernel
theorem dX4_leaderOf_69 : decode cX4_leaderOf 69 = .ok (.invokestatic 63, 3) := by decide +kernel
theorem dX4_leaderOf_72 : decode cX4_leaderOf 72 = .ok (.iconst 2, 1) := by decide +kernel
theorem dX4_leaderOf_73 : decode cX4_leaderOf 73 = .ok (.irem, 1) := by decide +kernel
theorem dX4_leaderOf_74 : decode cX4_leaderOf 74 = .ok (.ifCond .ne 10, 3) := by decide +kernel
theorem dX4_leaderOf_77 : decode cX4_leaderOf 77 = .ok (.aload_n 0, 1) := by decide +kernel
theorem dX4_leaderOf_78 : decode cX4_leaderOf 78 = .ok (.getfield 25, 3) := by decide +kernel
theorem dX4_leaderOf_81 : decode cX4_leaderOf 81 = .ok (.goto 9, 3) := by decide +kernel
theorem dX4_leaderOf_84 : decode cX4_leaderOf 84 = .ok (.iconst 1, 1) := by decide +kernel
theorem dX4_leaderOf_85 : decode cX4_leaderOf 85 = .ok (.aload_n 0, 1) := by decide +kernel
theorem dX4_leaderOf_86 : decode cX4_leaderOf 86 = .ok (.getfield 25, 3) := by decide +kernel
theorem dX4_leaderOf_89 : decode cX4_leaderOf 89 = .ok (.isub, 1) := by decide +kernel
theorem dX4_leaderOf_90 : decode cX4_leaderOf 90 = .ok (.ireturn, 1) := by decide +kernel
theorem dX4_leaderOf_91 : decode cX4_leaderOf 91 = .ok (.iload_n 2, 1) := by decide +kernel
theorem dX4_leaderOf_92 : decode cX4_leaderOf 92 = .ok (.ifCond .ge 7, 3) := by decide +kernel
theorem dX4_leaderOf_95 : decode cX4_leaderOf 95 = .ok (.iconst 0, 1) := by decide +kernel
theorem dX4_leaderOf_96 : decode cX4_leaderOf 96 = .ok (.goto 14, 3) := by decide +kernel
theorem dX4_leaderOf_99 : decode cX4_leaderOf 99 = .ok (.iload_n 2, 1) := by decide +kernel
theorem dX4_leaderOf_100 : decode cX4_leaderOf 100 = .ok (.ifCond .le 7, 3) := by decide +kernel
theorem dX4_leaderOf_103 : decode cX4_leaderOf 103 = .ok (.iconst 1, 1) := by decide +kernel
theorem dX4_leaderOf_104 : decode cX4_leaderOf 104 = .ok (.goto 6, 3) := by decide +kernel
theorem dX4_leaderOf_107 : decode cX4_leaderOf 107 = .ok (.iconst 1, 1) := by decide +kernel
theorem dX4_leaderOf_108 : decode cX4_leaderOf 108 = .ok (.iload_n 3, 1) := by decide +kernel
theorem dX4_leaderOf_109 : decode cX4_leaderOf 109 = .ok (.isub, 1) := by decide +kernel
theorem dX4_leaderOf_110 : decode cX4_leaderOf 110 = .ok (.ireturn, 1) := by decide +kernel
theorem dX4_leaderOf_111 : decode cX4_leaderOf 111 = .ok (.aload_n 0, 1) := by decide +kernel
theorem dX4_leaderOf_112 : decode cX4_leaderOf 112 = .ok (.getfield 25, 3) := by decide +kernel
theorem dX4_leaderOf_115 : decode cX4_leaderOf 115 = .ok (.ireturn, 1) := by decide +kernel
theorem dX4_isOverAt_0 : decode cX4_isOverAt 0 = .ok (.iload_n 1, 1) := by decide +kernel
theorem dX4_isOverAt_1 : decode cX4_isOverAt 1 = .ok (.iconst 2, 1) := by decide +kernel
theorem dX4_isOverAt_2 : decode cX4_isOverAt 2 = .ok (.aload_n 0, 1) := by decide +kernel
theorem dX4_isOverAt_3 : decode cX4_isOverAt 3 = .ok (.getfield 18, 3) := by decide +kernel
theorem dX4_isOverAt_6 : decode cX4_isOverAt 6 = .ok (.imul, 1) := by decide +kernel
theorem dX4_isOverAt_7 : decode cX4_isOverAt 7 = .ok (.if_icmp .le 19, 3) := by decide +kernel
theorem dX4_isOverAt_10 : decode cX4_isOverAt 10 = .ok (.iload_n 1, 1) := by decide +kernel
theorem dX4_isOverAt_11 : decode cX4_isOverAt 11 = .ok (.iconst 2, 1) := by decide +kernel
theorem dX4_isOverAt_12 : decode cX4_isOverAt 12 = .ok (.irem, 1) := by decide +kernel
theorem dX4_isOverAt_13 : decode cX4_isOverAt 13 = .ok (.ifCond .ne 11, 3) := by decide +kernel
theorem dX4_isOverAt_16 : decode cX4_isOverAt 16 = .ok (.iload_n 2, 1) := by decide +kernel
theorem dX4_isOverAt_17 : decode cX4_isOverAt 17 = .ok (.ifCond .eq 7, 3) := by decide +kernel
theorem dX4_isOverAt_20 : decode cX4_isOverAt 20 = .ok (.iconst 1, 1) := by decide +kernel
theorem dX4_isOverAt_21 : decode cX4_isOverAt 21 = .ok (.goto 4, 3) := by decide +kernel
theorem dX4_isOverAt_24 : decode cX4_isOverAt 24 = .ok (.iconst 0, 1) := by decide +kernel
theorem dX4_isOverAt_25 : decode cX4_isOverAt 25 = .ok (.ireturn, 1) := by decide +kernel
theorem dX4_isOverAt_26 : decode cX4_isOverAt 26 = .ok (.aload_n 0, 1) := by decide +kernel
theorem dX4_isOverAt_27 : decode cX4_isOverAt 27 = .ok (.getfield 18, 3) := by decide +kernel
theorem dX4_isOverAt_30 : decode cX4_isOverAt 30 = .ok (.iload_n 1, 1) := by decide +kernel
theorem dX4_isOverAt_31 : decode cX4_isOverAt 31 = .ok (.iconst 1, 1) := by decide +kernel
theorem dX4_isOverAt_32 : decode cX4_isOverAt 32 = .ok (.iadd, 1) := by decide +kernel
theorem dX4_isOverAt_33 : decode cX4_isOverAt 33 = .ok (.iconst 2, 1) := by decide +kernel
theorem dX4_isOverAt_34 : decode cX4_isOverAt 34 = .ok (.idiv, 1) := by decide +kernel
theorem dX4_isOverAt_35 : decode cX4_isOverAt 35 = .ok (.isub, 1) := by decide +kernel
theorem dX4_isOverAt_36 : decode cX4_isOverAt 36 = .ok (.istore 4, 2) := by decide +kernel
theorem dX4_isOverAt_38 : decode cX4_isOverAt 38 = .ok (.aload_n 0, 1) := by decide +kernel
theorem dX4_isOverAt_39 : decode cX4_isOverAt 39 = .ok (.getfield 18, 3) := by decide +kernel
theorem dX4_isOverAt_42 : decode cX4_isOverAt 42 = .ok (.iload_n 1, 1) := by decide +kernel
theorem dX4_isOverAt_43 : decode cX4_isOverAt 43 = .ok (.iconst 2, 1) := by decide +kernel
theorem dX4_isOverAt_44 : decode cX4_isOverAt 44 = .ok (.idiv, 1) := by decide +kernel
theorem dX4_isOverAt_45 : decode cX4_isOverAt 45 = .ok (.isub, 1) := by decide +kernel
theorem dX4_isOverAt_46 : decode cX4_isOverAt 46 = .ok (.istore 5, 2) := by decide +kernel
theorem dX4_isOverAt_48 : decode cX4_isOverAt 48 = .ok (.iload_n 3, 1) := by decide +kernel
theorem dX4_isOverAt_49 : decode cX4_isOverAt 49 = .ok (.ifCond .ne 7, 3) := by decide +kernel
theorem dX4_isOverAt_52 : decode cX4_isOverAt 52 = .ok (.iload_n 2, 1) := by decide +kernel
theorem dX4_isOverAt_53 : decode cX4_isOverAt 53 = .ok (.goto 5, 3) := by decide +kernel
theorem dX4_isOverAt_56 : decode cX4_isOverAt 56 = .ok (.iload_n 2, 1) := by decide +kernel
theorem dX4_isOverAt_57 : decode cX4_isOverAt 57 = .ok (.ineg, 1) := by decide +kernel
theorem dX4_isOverAt_58 : decode cX4_isOverAt 58 = .ok (.istore 6, 2) := by decide +kernel
theorem dX4_isOverAt_60 : decode cX4_isOverAt 60 = .ok (.iload 6, 2) := by decide +kernel
theorem dX4_isOverAt_62 : decode cX4_isOverAt 62 = .ok (.iload 5, 2) := by decide +kernel
theorem dX4_isOverAt_64 : decode cX4_isOverAt 64 = .ok (.if_icmp .gt 11, 3) := by decide +kernel
theorem dX4_isOverAt_67 : decode cX4_isOverAt 67 = .ok (.iload 6, 2) := by decide +kernel
theorem dX4_isOverAt_69 : decode cX4_isOverAt 69 = .ok (.ineg, 1) := by decide +kernel
theorem dX4_isOverAt_70 : decode cX4_isOverAt 70 = .ok (.iload 4, 2) := by decide +kernel
theorem dX4_isOverAt_72 : decode cX4_isOverAt 72 = .ok (.if_icmp .le 7, 3) := by decide +kernel
theorem dX4_isOverAt_75 : decode cX4_isOverAt 75 = .ok (.iconst 1, 1) := by decide +kernel
theorem dX4_isOverAt_76 : decode cX4_isOverAt 76 = .ok (.goto 4, 3) := by decide +kernel
theorem dX4_isOverAt_79 : decode cX4_isOverAt 79 = .ok (.iconst 0, 1) := by decide +kernel
theorem dX4_isOverAt_80 : decode cX4_isOverAt 80 = .ok (.ireturn, 1) := by decide +kernel
theorem dX4_isOver_0 : decode cX4_isOver 0 = .ok (.aload_n 0, 1) := by decide +kernel
theorem dX4_isOver_1 : decode cX4_isOver 1 = .ok (.aload_n 0, 1) := by decide +kernel
theorem dX4_isOver_2 : decode cX4_isOver 2 = .ok (.getfield 28, 3) := by decide +kernel
theorem dX4_isOver_5 : decode cX4_isOver 5 = .ok (.aload_n 0, 1) := by decide +kernel
theorem dX4_isOver_6 : decode cX4_isOver 6 = .ok (.invokevirtual 68, 3) := by decide +kernel
theorem dX4_isOver_9 : decode cX4_isOver 9 = .ok (.aload_n 0, 1) := by decide +kernel
theorem dX4_isOver_10 : decode cX4_isOver 10 = .ok (.getfield 28, 3) := by decide +kernel
theorem dX4_isOver_13 : decode cX4_isOver 13 = .ok (.iconst 2, 1) := by decide +kernel
theorem dX4_isOver_14 : decode cX4_isOver 14 = .ok (.irem, 1) := by decide +kernel
theorem dX4_isOver_15 : decode cX4_isOver 15 = .ok (.iconst 1, 1) := by decide +kernel
theorem dX4_isOver_16 : decode cX4_isOver 16 = .ok (.if_icmp .ne 16, 3) := by decide +kernel
theorem dX4_isOver_19 : decode cX4_isOver 19 = .ok (.aload_n 0, 1) := by decide +kernel
theorem dX4_isOver_20 : decode cX4_isOver 20 = .ok (.aload_n 0, 1) := by decide +kernel
theorem dX4_isOver_21 : decode cX4_isOver 21 = .ok (.getfield 28, 3) := by decide +kernel
theorem dX4_isOver_24 : decode cX4_isOver 24 = .ok (.iconst 1, 1) := by decide +kernel
theorem dX4_isOver_25 : decode cX4_isOver 25 = .ok (.isub, 1) := by decide +kernel
theorem dX4_isOver_26 : decode cX4_isOver 26 = .ok (.invokevirtual 47, 3) := by decide +kernel
theorem dX4_isOver_29 : decode cX4_isOver 29 = .ok (.goto 4, 3) := by decide +kernel
theorem dX4_isOver_32 : decode cX4_isOver 32 = .ok (.iconst 0, 1) := by decide +kernel
theorem dX4_isOver_33 : decode cX4_isOver 33 = .ok (.invokevirtual 71, 3) := by decide +kernel
theorem dX4_isOver_36 : decode cX4_isOver 36 = .ok (.ireturn, 1) := by decide +kernel
theorem dX4_goesOn_0 : decode cX4_goesOn 0 = .ok (.aload_n 0, 1) := by decide +kernel
theorem dX4_goesOn_1 : decode cX4_goesOn 1 = .ok (.getfield 28, 3) := by decide +kernel
theorem dX4_goesOn_4 : decode cX4_goesOn 4 = .ok (.bipush 60, 2) := by decide +kernel
theorem dX4_goesOn_6 : decode cX4_goesOn 6 = .ok (.if_icmp .ge 14, 3) := by decide +kernel
theorem dX4_goesOn_9 : decode cX4_goesOn 9 = .ok (.aload_n 0, 1) := by decide +kernel
theorem dX4_goesOn_10 : decode cX4_goesOn 10 = .ok (.invokevirtual 75, 3) := by decide +kernel
theorem dX4_goesOn_13 : decode cX4_goesOn 13 = .ok (.ifCond .ne 7, 3) := by decide +kernel
theorem dX4_goesOn_16 : decode cX4_goesOn 16 = .ok (.iconst 1, 1) := by decide +kernel
theorem dX4_goesOn_17 : decode cX4_goesOn 17 = .ok (.goto 4, 3) := by decide +kernel
theorem dX4_goesOn_20 : decode cX4_goesOn 20 = .ok (.iconst 0, 1) := by decide +kernel
theorem dX4_goesOn_21 : decode cX4_goesOn 21 = .ok (.ireturn, 1) := by decide +kernel
theorem dX4_winner_0 : decode cX4_winner 0 = .ok (.aload_n 0, 1) := by decide +kernel
theorem dX4_winner_1 : decode cX4_winner 1 = .ok (.invokevirtual 75, 3) := by decide +kernel
theorem dX4_winner_4 : decode cX4_winner 4 = .ok (.ifCond .ne 7, 3) := by decide +kernel
theorem dX4_winner_7 : decode cX4_winner 7 = .ok (.iconst 2, 1) := by decide +kernel
theorem dX4_winner_8 : decode cX4_winner 8 = .ok (.goto 15, 3) := by decide +kernel
theorem dX4_winner_11 : decode cX4_winner 11 = .ok (.aload_n 0, 1) := by decide +kernel
theorem dX4_winner_12 : decode cX4_winner 12 = .ok (.invokevirtual 68, 3) := by decide +kernel
theorem dX4_winner_15 : decode cX4_winner 15 = .ok (.ifCond .le 7, 3) := by decide +kernel
theorem dX4_winner_18 : decode cX4_winner 18 = .ok (.iconst 0, 1) := by decide +kernel
theorem dX4_winner_19 : decode cX4_winner 19 = .ok (.goto 4, 3) := by decide +kernel
theorem dX4_winner_22 : decode cX4_winner 22 = .ok (.iconst 1, 1) := by decide +kernel
theorem dX4_winner_23 : decode cX4_winner 23 = .ok (.ireturn, 1) := by decide +kernel
theorem dX4_leader_0 : decode cX4_leader 0 = .ok (.aload_n 0, 1) := by decide +kernel
theorem dX4_leader_1 : decode cX4_leader 1 = .ok (.getfield 28, 3) := by decide +kernel
theorem dX4_leader_4 : decode cX4_leader 4 = .ok (.iconst 2, 1) := by decide +kernel
theorem dX4_leader_5 : decode cX4_leader 5 = .ok (.irem, 1) := by decide +kernel
theorem dX4_leader_6 : decode cX4_leader 6 = .ok (.iconst 1, 1) := by decide +kernel
theorem dX4_leader_7 : decode cX4_leader 7 = .ok (.if_icmp .ne 14, 3) := by decide +kernel
theorem dX4_leader_10 : decode cX4_leader 10 = .ok (.aload_n 0, 1) := by decide +kernel
theorem dX4_leader_11 : decode cX4_leader 11 = .ok (.aload_n 0, 1) := by decide +kernel
theorem dX4_leader_12 : decode cX4_leader 12 = .ok (.getfield 28, 3) := by decide +kernel
theorem dX4_leader_15 : decode cX4_leader 15 = .ok (.iconst 1, 1) := by decide +kernel
theorem dX4_leader_16 : decode cX4_leader 16 = .ok (.isub, 1) := by decide +kernel
theorem dX4_leader_17 : decode cX4_leader 17 = .ok (.invokevirtual 47, 3) := by decide +kernel
theorem dX4_leader_20 : decode cX4_leader 20 = .ok (.ireturn, 1) := by decide +kernel
theorem dX4_leader_21 : decode cX4_leader 21 = .ok (.aload_n 0, 1) := by decide +kernel
theorem dX4_leader_22 : decode cX4_leader 22 = .ok (.aload_n 0, 1) := by decide +kernel
theorem dX4_leader_23 : decode cX4_leader 23 = .ok (.invokevirtual 51, 3) := by decide +kernel
theorem dX4_leader_26 : decode cX4_leader 26 = .ok (.aload_n 0, 1) := by decide +kernel
theorem dX4_leader_27 : decode cX4_leader 27 = .ok (.invokevirtual 68, 3) := by decide +kernel
theorem dX4_leader_30 : decode cX4_leader 30 = .ok (.aload_n 0, 1) := by decide +kernel
theorem dX4_leader_31 : decode cX4_leader 31 = .ok (.getfield 28, 3) := by decide +kernel
theorem dX4_leader_34 : decode cX4_leader 34 = .ok (.iconst 2, 1) := by decide +kernel
theorem dX4_leader_35 : decode cX4_leader 35 = .ok (.if_icmp .lt 16, 3) := by decide +kernel
theorem dX4_leader_38 : decode cX4_leader 38 = .ok (.aload_n 0, 1) := by decide +kernel
theorem dX4_leader_39 : decode cX4_leader 39 = .ok (.aload_n 0, 1) := by decide +kernel
theorem dX4_leader_40 : decode cX4_leader 40 = .ok (.getfield 28, 3) := by decide +kernel
theorem dX4_leader_43 : decode cX4_leader 43 = .ok (.iconst 2, 1) := by decide +kernel
theorem dX4_leader_44 : decode cX4_leader 44 = .ok (.isub, 1) := by decide +kernel
theorem dX4_leader_45 : decode cX4_leader 45 = .ok (.invokevirtual 47, 3) := by decide +kernel
theorem dX4_leader_48 : decode cX4_leader 48 = .ok (.goto 7, 3) := by decide +kernel
theorem dX4_leader_51 : decode cX4_leader 51 = .ok (.aload_n 0, 1) := by decide +kernel
theorem dX4_leader_52 : decode cX4_leader 52 = .ok (.getfield 25, 3) := by decide +kernel
theorem dX4_leader_55 : decode cX4_leader 55 = .ok (.invokevirtual 79, 3) := by decide +kernel
theorem dX4_leader_58 : decode cX4_leader 58 = .ok (.ireturn, 1) := by decide +kernel
theorem dX4_kicker_0 : decode cX4_kicker 0 = .ok (.aload_n 0, 1) := by decide +kernel
theorem dX4_kicker_1 : decode cX4_kicker 1 = .ok (.getfield 28, 3) := by decide +kernel
theorem dX4_kicker_4 : decode cX4_kicker 4 = .ok (.iconst 2, 1) := by decide +kernel
theorem dX4_kicker_5 : decode cX4_kicker 5 = .ok (.irem, 1) := by decide +kernel
theorem dX4_kicker_6 : decode cX4_kicker 6 = .ok (.ifCond .ne 10, 3) := by decide +kernel
theorem dX4_kicker_9 : decode cX4_kicker 9 = .ok (.aload_n 0, 1) := by decide +kernel
theorem dX4_kicker_10 : decode cX4_kicker 10 = .ok (.invokevirtual 83, 3) := by decide +kernel
theorem dX4_kicker_13 : decode cX4_kicker 13 = .ok (.goto 9, 3) := by decide +kernel
theorem dX4_kicker_16 : decode cX4_kicker 16 = .ok (.iconst 1, 1) := by decide +kernel
theorem dX4_kicker_17 : decode cX4_kicker 17 = .ok (.aload_n 0, 1) := by decide +kernel
theorem dX4_kicker_18 : decode cX4_kicker 18 = .ok (.invokevirtual 83, 3) := by decide +kernel
theorem dX4_kicker_21 : decode cX4_kicker 21 = .ok (.isub, 1) := by decide +kernel
theorem dX4_kicker_22 : decode cX4_kicker 22 = .ok (.ireturn, 1) := by decide +kernel
theorem dX4_chance_0 : decode cX4_chance 0 = .ok (.aload_n 0, 1) := by decide +kernel
theorem dX4_chance_1 : decode cX4_chance 1 = .ok (.invokevirtual 86, 3) := by decide +kernel
theorem dX4_chance_4 : decode cX4_chance 4 = .ok (.istore_n 1, 1) := by decide +kernel
theorem dX4_chance_5 : decode cX4_chance 5 = .ok (.aload_n 0, 1) := by decide +kernel
theorem dX4_chance_6 : decode cX4_chance 6 = .ok (.iload_n 1, 1) := by decide +kernel
theorem dX4_chance_7 : decode cX4_chance 7 = .ok (.aload_n 0, 1) := by decide +kernel
theorem dX4_chance_8 : decode cX4_chance 8 = .ok (.invokevirtual 89, 3) := by decide +kernel
theorem dX4_chance_11 : decode cX4_chance 11 = .ok (.iload_n 1, 1) := by decide +kernel
theorem dX4_chance_12 : decode cX4_chance 12 = .ok (.ifCond .ne 10, 3) := by decide +kernel
theorem dX4_chance_15 : decode cX4_chance 15 = .ok (.aload_n 0, 1) := by decide +kernel
theorem dX4_chance_16 : decode cX4_chance 16 = .ok (.invokevirtual 68, 3) := by decide +kernel
theorem dX4_chance_19 : decode cX4_chance 19 = .ok (.goto 8, 3) := by decide +kernel
theorem dX4_chance_22 : decode cX4_chance 22 = .ok (.aload_n 0, 1) := by decide +kernel
theorem dX4_chance_23 : decode cX4_chance 23 = .ok (.invokevirtual 68, 3) := by decide +kernel
theorem dX4_chance_26 : decode cX4_chance 26 = .ok (.ineg, 1) := by decide +kernel
theorem dX4_chance_27 : decode cX4_chance 27 = .ok (.invokevirtual 92, 3) := by decide +kernel
theorem dX4_chance_30 : decode cX4_chance 30 = .ok (.ireturn, 1) := by decide +kernel
theorem dX4_put_0 : decode cX4_put 0 = .ok (.aload_n 0, 1) := by decide +kernel
theorem dX4_put_1 : decode cX4_put 1 = .ok (.invokevirtual 86, 3) := by decide +kernel
theorem dX4_put_4 : decode cX4_put 4 = .ok (.istore_n 2, 1) := by decide +kernel
theorem dX4_put_5 : decode cX4_put 5 = .ok (.aload_n 0, 1) := by decide +kernel
theorem dX4_put_6 : decode cX4_put 6 = .ok (.dup, 1) := by decide +kernel
theorem dX4_put_7 : decode cX4_put 7 = .ok (.getfield 35, 3) := by decide +kernel
theorem dX4_put_10 : decode cX4_put 10 = .ok (.iload_n 2, 1) := by decide +kernel
theorem dX4_put_11 : decode cX4_put 11 = .ok (.i2l, 1) := by decide +kernel
theorem dX4_put_12 : decode cX4_put 12 = .ok (.aload_n 0, 1) := by decide +kernel
theorem dX4_put_13 : decode cX4_put 13 = .ok (.getfield 28, 3) := by decide +kernel
theorem dX4_put_16 : decode cX4_put 16 = .ok (.lshl, 1) := by decide +kernel
theorem dX4_put_17 : decode cX4_put 17 = .ok (.lor, 1) := by decide +kernel
theorem dX4_put_18 : decode cX4_put 18 = .ok (.putfield 35, 3) := by decide +kernel
theorem dX4_put_21 : decode cX4_put 21 = .ok (.iload_n 1, 1) := by decide +kernel
theorem dX4_put_22 : decode cX4_put 22 = .ok (.ifCond .eq 40, 3) := by decide +kernel
theorem dX4_put_25 : decode cX4_put 25 = .ok (.aload_n 0, 1) := by decide +kernel
theorem dX4_put_26 : decode cX4_put 26 = .ok (.dup, 1) := by decide +kernel
theorem dX4_put_27 : decode cX4_put 27 = .ok (.getfield 31, 3) := by decide +kernel
theorem dX4_put_30 : decode cX4_put 30 = .ok (.lconst 1, 1) := by decide +kernel
theorem dX4_put_31 : decode cX4_put 31 = .ok (.aload_n 0, 1) := by decide +kernel
theorem dX4_put_32 : decode cX4_put 32 = .ok (.getfield 28, 3) := by decide +kernel
theorem dX4_put_35 : decode cX4_put 35 = .ok (.lshl, 1) := by decide +kernel
theorem dX4_put_36 : decode cX4_put 36 = .ok (.lor, 1) := by decide +kernel
theorem dX4_put_37 : decode cX4_put 37 = .ok (.putfield 31, 3) := by decide +kernel
theorem dX4_put_40 : decode cX4_put 40 = .ok (.aload_n 0, 1) := by decide +kernel
theorem dX4_put_41 : decode cX4_put 41 = .ok (.dup, 1) := by decide +kernel
theorem dX4_put_42 : decode cX4_put 42 = .ok (.getfield 38, 3) := by decide +kernel
theorem dX4_put_45 : decode cX4_put 45 = .ok (.iconst 1, 1) := by decide +kernel
theorem dX4_put_46 : decode cX4_put 46 = .ok (.iload_n 2, 1) := by decide +kernel
theorem dX4_put_47 : decode cX4_put 47 = .ok (.isub, 1) := by decide +kernel
theorem dX4_put_48 : decode cX4_put 48 = .ok (.iadd, 1) := by decide +kernel
theorem dX4_put_49 : decode cX4_put 49 = .ok (.putfield 38, 3) := by decide +kernel
theorem dX4_put_52 : decode cX4_put 52 = .ok (.aload_n 0, 1) := by decide +kernel
theorem dX4_put_53 : decode cX4_put 53 = .ok (.dup, 1) := by decide +kernel
theorem dX4_put_54 : decode cX4_put 54 = .ok (.getfield 41, 3) := by decide +kernel
theorem dX4_put_57 : decode cX4_put 57 = .ok (.iload_n 2, 1) := by decide +kernel
theorem dX4_put_58 : decode cX4_put 58 = .ok (.iadd, 1) := by decide +kernel
theorem dX4_put_59 : decode cX4_put 59 = .ok (.putfield 41, 3) := by decide +kernel
theorem dX4_put_62 : decode cX4_put 62 = .ok (.aload_n 0, 1) := by decide +kernel
theorem dX4_put_63 : decode cX4_put 63 = .ok (.dup, 1) := by decide +kernel
theorem dX4_put_64 : decode cX4_put 64 = .ok (.getfield 28, 3) := by decide +kernel
theorem dX4_put_67 : decode cX4_put 67 = .ok (.iconst 1, 1) := by decide +kernel
theorem dX4_put_68 : decode cX4_put 68 = .ok (.iadd, 1) := by decide +kernel
theorem dX4_put_69 : decode cX4_put 69 = .ok (.putfield 28, 3) := by decide +kernel
theorem dX4_put_72 : decode cX4_put 72 = .ok (.return_, 1) := by decide +kernel
theorem dX5_init_0 : decode cX5_init 0 = .ok (.aload_n 0, 1) := by decide +kernel
theorem dX5_init_1 : decode cX5_init 1 = .ok (.invokespecial 3, 3) := by decide +kernel
theorem dX5_init_4 : decode cX5_init 4 = .ok (.aload_n 0, 1) := by decide +kernel
theorem dX5_init_5 : decode cX5_init 5 = .ok (.new 9, 3) := by decide +kernel
theorem dX5_init_8 : decode cX5_init 8 = .ok (.dup, 1) := by decide +kernel
theorem dX5_init_9 : decode cX5_init 9 = .ok (.invokespecial 11, 3) := by decide +kernel
theorem dX5_init_12 : decode cX5_init 12 = .ok (.putfield 12, 3) := by decide +kernel
theorem dX5_init_15 : decode cX5_init 15 = .ok (.aload_n 0, 1) := by decide +kernel
theorem dX5_init_16 : decode cX5_init 16 = .ok (.iconst 2, 1) := by decide +kernel
theorem dX5_init_17 : decode cX5_init 17 = .ok (.newarray .int, 2) := by decide +kernel
theorem dX5_init_19 : decode cX5_init 19 = .ok (.putfield 18, 3) := by decide +kernel
theorem dX5_init_22 : decode cX5_init 22 = .ok (.aload_n 0, 1) := by decide +kernel
theorem dX5_init_23 : decode cX5_init 23 = .ok (.new 22, 3) := by decide +kernel
theorem dX5_init_26 : decode cX5_init 26 = .ok (.dup, 1) := by decide +kernel
theorem dX5_init_27 : decode cX5_init 27 = .ok (.invokespecial 24, 3) := by decide +kernel
theorem dX5_init_30 : decode cX5_init 30 = .ok (.putfield 25, 3) := by decide +kernel
theorem dX5_init_33 : decode cX5_init 33 = .ok (.return_, 1) := by decide +kernel
theorem dX5_readText_0 : decode cX5_readText 0 = .ok (.aload_n 0, 1) := by decide +kernel
theorem dX5_readText_1 : decode cX5_readText 1 = .ok (.getfield 25, 3) := by decide +kernel
theorem dX5_readText_4 : decode cX5_readText 4 = .ok (.invokevirtual 29, 3) := by decide +kernel
theorem dX5_readText_7 : decode cX5_readText 7 = .ok (.aload_n 0, 1) := by decide +kernel
theorem dX5_readText_8 : decode cX5_readText 8 = .ok (.iconst 0, 1) := by decide +kernel
theorem dX5_readText_9 : decode cX5_readText 9 = .ok (.putfield 32, 3) := by decide +kernel
theorem dX5_readText_12 : decode cX5_readText 12 = .ok (.aload_n 0, 1) := by decide +kernel
theorem dX5_readText_13 : decode cX5_readText 13 = .ok (.getfield 18, 3) := by decide +kernel
theorem dX5_readText_16 : decode cX5_readText 16 = .ok (.iconst 0, 1) := by decide +kernel
theorem dX5_readText_17 : decode cX5_readText 17 = .ok (.iconst 0, 1) := by decide +kernel
theorem dX5_readText_18 : decode cX5_readText 18 = .ok (.iastore, 1) := by decide +kernel
theorem dX5_readText_19 : decode cX5_readText 19 = .ok (.aload_n 0, 1) := by decide +kernel
theorem dX5_readText_20 : decode cX5_readText 20 = .ok (.getfield 18, 3) := by decide +kernel
theorem dX5_readText_23 : decode cX5_readText 23 = .ok (.iconst 1, 1) := by decide +kernel
theorem dX5_readText_24 : decode cX5_readText 24 = .ok (.iconst 0, 1) := by decide +kernel
theorem dX5_readText_25 : decode cX5_readText 25 = .ok (.iastore, 1) := by decide +kernel
theorem dX5_readText_26 : decode cX5_readText 26 = .ok (.aload_n 0, 1) := by decide +kernel
theorem dX5_readText_27 : decode cX5_readText 27 = .ok (.iconst 0, 1) := by decide +kernel
theorem dX5_readText_28 : decode cX5_readText 28 = .ok (.putfield 36, 3) := by decide +kernel
theorem dX5_readText_31 : decode cX5_readText 31 = .ok (.aload_n 0, 1) := by decide +kernel
theorem dX5_readText_32 : decode cX5_readText 32 = .ok (.invokevirtual 39, 3) := by decide +kernel
theorem dX5_readText_35 : decode cX5_readText 35 = .ok (.iconst 0, 1) := by decide +kernel
theorem dX5_readText_36 : decode cX5_readText 36 = .ok (.istore_n 1, 1) := by decide +kernel
theorem dX5_readText_37 : decode cX5_readText 37 = .ok (.iload_n 1, 1) := by decide +kernel
theorem dX5_readText_38 : decode cX5_readText 38 = .ok (.sipush 200, 3) := by decide +kernel
theorem dX5_readText_41 : decode cX5_readText 41 = .ok (.if_icmp .gt 56, 3) := by decide +kernel
theorem dX5_readText_44 : decode cX5_readText 44 = .ok (.aload_n 0, 1) := by decide +kernel
theorem dX5_readText_45 : decode cX5_readText 45 = .ok (.invokevirtual 42, 3) := by decide +kernel
theorem dX5_readText_48 : decode cX5_readText 48 = .ok (.ifCond .ne 8, 3) := by decide +kernel
theorem dX5_readText_51 : decode cX5_readText 51 = .ok (.aload_n 0, 1) := by decide +kernel
theorem dX5_readText_52 : decode cX5_readText 52 = .ok (.getfield 46, 3) := by decide +kernel
theorem dX5_readText_55 : decode cX5_readText 55 = .ok (.ireturn, 1) := by decide +kernel
theorem dX5_readText_56 : decode cX5_readText 56 = .ok (.aload_n 0, 1) := by decide +kernel
theorem dX5_readText_57 : decode cX5_readText 57 = .ok (.getfield 46, 3) := by decide +kernel
theorem dX5_readText_60 : decode cX5_readText 60 = .ok (.aload_n 0, 1) := by decide +kernel
theorem dX5_readText_61 : decode cX5_readText 61 = .ok (.getfield 12, 3) := by decide +kernel
theorem dX5_readText_64 : decode cX5_readText 64 = .ok (.getfield 49, 3) := by decide +kernel
theorem dX5_readText_67 : decode cX5_readText 67 = .ok (.if_icmp .lt 6, 3) := by decide +kernel
theorem dX5_readText_70 : decode cX5_readText 70 = .ok (.goto 27, 3) := by decide +kernel
theorem dX5_readText_73 : decode cX5_readText 73 = .ok (.aload_n 0, 1) := by decide +kernel
theorem dX5_readText_74 : decode cX5_readText 74 = .ok (.ldc 52, 2) := by decide +kernel
theorem dX5_readText_76 : decode cX5_readText 76 = .ok (.invokevirtual 54, 3) := by decide +kernel
theorem dX5_readText_79 : decode cX5_readText 79 = .ok (.ifCond .ne 8, 3) := by decide +kernel
theorem dX5_readText_82 : decode cX5_readText 82 = .ok (.aload_n 0, 1) := by decide +kernel
theorem dX5_readText_83 : decode cX5_readText 83 = .ok (.getfield 46, 3) := by decide +kernel
theorem dX5_readText_86 : decode cX5_readText 86 = .ok (.ireturn, 1) := by decide +kernel
theorem dX5_readText_87 : decode cX5_readText 87 = .ok (.aload_n 0, 1) := by decide +kernel
theorem dX5_readText_88 : decode cX5_readText 88 = .ok (.invokevirtual 39, 3) := by decide +kernel
theorem dX5_readText_91 : decode cX5_readText 91 = .ok (.iinc 1 1, 3) := by decide +kernel
theorem dX5_readText_94 : decode cX5_readText 94 = .ok (.goto (-57), 3) := by decide +kernel
theorem dX5_readText_97 : decode cX5_readText 97 = .ok (.aload_n 0, 1) := by decide +kernel
theorem dX5_readText_98 : decode cX5_readText 98 = .ok (.getfield 18, 3) := by decide +kernel
theorem dX5_readText_101 : decode cX5_readText 101 = .ok (.iconst 0, 1) := by decide +kernel
theorem dX5_readText_102 : decode cX5_readText 102 = .ok (.iaload, 1) := by decide +kernel
theorem dX5_readText_103 : decode cX5_readText 103 = .ok (.ifCond .eq 18, 3) := by decide +kernel
theorem dX5_readText_106 : decode cX5_readText 106 = .ok (.aload_n 0, 1) := by decide +kernel
theorem dX5_readText_107 : decode cX5_readText 107 = .ok (.getfield 18, 3) := by decide +kernel
theorem dX5_readText_110 : decode cX5_readText 110 = .ok (.iconst 0, 1) := by decide +kernel
theorem dX5_readText_111 : decode cX5_readText 111 = .ok (.iaload, 1) := by decide +kernel
theorem dX5_readText_112 : decode cX5_readText 112 = .ok (.aload_n 0, 1) := by decide +kernel
theorem dX5_readText_113 : decode cX5_readText 113 = .ok (.getfield 18, 3) := by decide +kernel
theorem dX5_readText_116 : decode cX5_readText 116 = .ok (.iconst 1, 1) := by decide +kernel
theorem dX5_readText_117 : decode cX5_readText 117 = .ok (.iaload, 1) := by decide +kernel
theorem dX5_readText_118 : decode cX5_readText 118 = .ok (.if_icmp .eq 11, 3) := by decide +kernel
theorem dX5_readText_121 : decode cX5_readText 121 = .ok (.aload_n 0, 1) := by decide +kernel
theorem dX5_readText_122 : decode cX5_readText 122 = .ok (.getfield 12, 3) := by decide +kernel
theorem dX5_readText_125 : decode cX5_readText 125 = .ok (.getfield 49, 3) := by decide +kernel
theorem dX5_readText_128 : decode cX5_readText 128 = .ok (.ireturn, 1) := by decide +kernel
theorem dX5_readText_129 : decode cX5_readText 129 = .ok (.aload_n 0, 1) := by decide +kernel
theorem dX5_readText_130 : decode cX5_readText 130 = .ok (.getfield 25, 3) := by decide +kernel
theorem dX5_readText_133 : decode cX5_readText 133 = .ok (.aload_n 0, 1) := by decide +kernel
theorem dX5_readText_134 : decode cX5_readText 134 = .ok (.getfield 18, 3) := by decide +kernel
theorem dX5_readText_137 : decode cX5_readText 137 = .ok (.iconst 0, 1) := by decide +kernel
theorem dX5_readText_138 : decode cX5_readText 138 = .ok (.iaload, 1) := by decide +kernel
theorem dX5_readText_139 : decode cX5_readText 139 = .ok (.putfield 58, 3) := by decide +kernel
theorem dX5_readText_142 : decode cX5_readText 142 = .ok (.iconst (-1), 1) := by decide +kernel
theorem dX5_readText_143 : decode cX5_readText 143 = .ok (.ireturn, 1) := by decide +kernel
theorem dX5_advance_0 : decode cX5_advance 0 = .ok (.aload_n 0, 1) := by decide +kernel
theorem dX5_advance_1 : decode cX5_advance 1 = .ok (.aload_n 0, 1) := by decide +kernel
theorem dX5_advance_2 : decode cX5_advance 2 = .ok (.getfield 36, 3) := by decide +kernel
theorem dX5_advance_5 : decode cX5_advance 5 = .ok (.putfield 46, 3) := by decide +kernel
theorem dX5_advance_8 : decode cX5_advance 8 = .ok (.aload_n 0, 1) := by decide +kernel
theorem dX5_advance_9 : decode cX5_advance 9 = .ok (.getfield 46, 3) := by decide +kernel
theorem dX5_advance_12 : decode cX5_advance 12 = .ok (.aload_n 0, 1) := by decide +kernel
theorem dX5_advance_13 : decode cX5_advance 13 = .ok (.getfield 12, 3) := by decide +kernel
theorem dX5_advance_16 : decode cX5_advance 16 = .ok (.getfield 49, 3) := by decide +kernel
theorem dX5_advance_19 : decode cX5_advance 19 = .ok (.if_icmp .ge 32, 3) := by decide +kernel
theorem dX5_advance_22 : decode cX5_advance 22 = .ok (.aload_n 0, 1) := by decide +kernel
theorem dX5_advance_23 : decode cX5_advance 23 = .ok (.getfield 12, 3) := by decide +kernel
theorem dX5_advance_26 : decode cX5_advance 26 = .ok (.aload_n 0, 1) := by decide +kernel
theorem dX5_advance_27 : decode cX5_advance 27 = .ok (.getfield 46, 3) := by decide +kernel
theorem dX5_advance_30 : decode cX5_advance 30 = .ok (.invokevirtual 61, 3) := by decide +kernel
theorem dX5_advance_33 : decode cX5_advance 33 = .ok (.bipush 32, 2) := by decide +kernel
theorem dX5_advance_35 : decode cX5_advance 35 = .ok (.if_icmp .ne 16, 3) := by decide +kernel
theorem dX5_advance_38 : decode cX5_advance 38 = .ok (.aload_n 0, 1) := by decide +kernel
theorem dX5_advance_39 : decode cX5_advance 39 = .ok (.dup, 1) := by decide +kernel
theorem dX5_advance_40 : decode cX5_advance 40 = .ok (.getfield 46, 3) := by decide +kernel
theorem dX5_advance_43 : decode cX5_advance 43 = .ok (.iconst 1, 1) := by decide +kernel
theorem dX5_advance_44 : decode cX5_advance 44 = .ok (.iadd, 1) := by decide +kernel
theorem dX5_advance_45 : decode cX5_advance 45 = .ok (.putfield 46, 3) := by decide +kernel
theorem dX5_advance_48 : decode cX5_advance 48 = .ok (.goto (-40), 3) := by decide +kernel
theorem dX5_advance_51 : decode cX5_advance 51 = .ok (.aload_n 0, 1) := by decide +kernel
theorem dX5_advance_52 : decode cX5_advance 52 = .ok (.aload_n 0, 1) := by decide +kernel
theorem dX5_advance_53 : decode cX5_advance 53 = .ok (.getfield 46, 3) := by decide +kernel
theorem dX5_advance_56 : decode cX5_advance 56 = .ok (.putfield 36, 3) := by decide +kernel
theorem dX5_advance_59 : decode cX5_advance 59 = .ok (.aload_n 0, 1) := by decide +kernel
theorem dX5_advance_60 : decode cX5_advance 60 = .ok (.getfield 36, 3) := by decide +kernel
theorem dX5_advance_63 : decode cX5_advance 63 = .ok (.aload_n 0, 1) := by decide +kernel
theorem dX5_advance_64 : decode cX5_advance 64 = .ok (.getfield 12, 3) := by decide +kernel
theorem dX5_advance_67 : decode cX5_advance 67 = .ok (.getfield 49, 3) := by decide +kernel
theorem dX5_advance_70 : decode cX5_advance 70 = .ok (.if_icmp .ge 33, 3) := by decide +kernel
theorem dX5_advance_73 : decode cX5_advance 73 = .ok (.aload_n 0, 1) := by decide +kernel
theorem dX5_advance_74 : decode cX5_advance 74 = .ok (.getfield 12, 3) := by decide +kernel
theorem dX5_advance_77 : decode cX5_advance 77 = .ok (.aload_n 0, 1) := by decide +kernel
theorem dX5_advance_78 : decode cX5_advance 78 = .ok (.getfield 36, 3) := by decide +kernel
theorem dX5_advance_81 : decode cX5_advance 81 = .ok (.invokevirtual 61, 3) := by decide +kernel
theorem dX5_advance_84 : decode cX5_advance 84 = .ok (.invokestatic 65, 3) := by decide +kernel
theorem dX5_advance_87 : decode cX5_advance 87 = .ok (.ifCond .eq 16, 3) := by decide +kernel
theorem dX5_advance_90 : decode cX5_advance 90 = .ok (.aload_n 0, 1) := by decide +kernel
theorem dX5_advance_91 : decode cX5_advance 91 = .ok (.dup, 1) := by decide +kernel
theorem dX5_advance_92 : decode cX5_advance 92 = .ok (.getfield 36, 3) := by decide +kernel
theorem dX5_advance_95 : decode cX5_advance 95 = .ok (.iconst 1, 1) := by decide +kernel
theorem dX5_advance_96 : decode cX5_advance 96 = .ok (.iadd, 1) := by decide +kernel
theorem dX5_advance_97 : decode cX5_advance 97 = .ok (.putfield 36, 3) := by decide +kernel
theorem dX5_advance_100 : decode cX5_advance 100 = .ok (.goto (-41), 3) := by decide +kernel
theorem dX5_advance_103 : decode cX5_advance 103 = .ok (.aload_n 0, 1) := by decide +kernel
theorem dX5_advance_104 : decode cX5_advance 104 = .ok (.getfield 36, 3) := by decide +kernel
theorem dX5_advance_107 : decode cX5_advance 107 = .ok (.aload_n 0, 1) := by decide +kernel
theorem dX5_advance_108 : decode cX5_advance 108 = .ok (.getfield 46, 3) := by decide +kernel
theorem dX5_advance_111 : decode cX5_advance 111 = .ok (.if_icmp .ne 27, 3) := by decide +kernel
theorem dX5_advance_114 : decode cX5_advance 114 = .ok (.aload_n 0, 1) := by decide +kernel
theorem dX5_advance_115 : decode cX5_advance 115 = .ok (.getfield 36, 3) := by decide +kernel
theorem dX5_advance_118 : decode cX5_advance 118 = .ok (.aload_n 0, 1) := by decide +kernel
theorem dX5_advance_119 : decode cX5_advance 119 = .ok (.getfield 12, 3) := by decide +kernel
theorem dX5_advance_122 : decode cX5_advance 122 = .ok (.getfield 49, 3) := by decide +kernel
theorem dX5_advance_125 : decode cX5_advance 125 = .ok (.if_icmp .ge 13, 3) := by decide +kernel
theorem dX5_advance_128 : decode cX5_advance 128 = .ok (.aload_n 0, 1) := by decide +kernel
theorem dX5_advance_129 : decode cX5_advance 129 = .ok (.dup, 1) := by decide +kernel
theorem dX5_advance_130 : decode cX5_advance 130 = .ok (.getfield 36, 3) := by decide +kernel
theorem dX5_advance_133 : decode cX5_advance 133 = .ok (.iconst 1, 1) := by decide +kernel
theorem dX5_advance_134 : decode cX5_advance 134 = .ok (.iadd, 1) := by decide +kernel
theorem dX5_advance_135 : decode cX5_advance 135 = .ok (.putfield 36, 3) := by decide +kernel
theorem dX5_advance_138 : decode cX5_advance 138 = .ok (.return_, 1) := by decide +kernel
theorem dX5_isLetter_0 : decode cX5_isLetter 0 = .ok (.iload_n 0, 1) := by decide +kernel
theorem dX5_isLetter_1 : decode cX5_isLetter 1 = .ok (.bipush 97, 2) := by decide +kernel
theorem dX5_isLetter_3 : decode cX5_isLetter 3 = .ok (.if_icmp .lt 13, 3) := by decide +kernel
theorem dX5_isLetter_6 : decode cX5_isLetter 6 = .ok (.iload_n 0, 1) := by decide +kernel
theorem dX5_isLetter_7 : decode cX5_isLetter 7 = .ok (.bipush 122, 2) := by decide +kernel
theorem dX5_isLetter_9 : decode cX5_isLetter 9 = .ok (.if_icmp .gt 7, 3) := by decide +kernel
theorem dX5_isLetter_12 : decode cX5_isLetter 12 = .ok (.iconst 1, 1) := by decide +kernel
theorem dX5_isLetter_13 : decode cX5_isLetter 13 = .ok (.goto 4, 3) := by decide +kernel
theorem dX5_isLetter_16 : decode cX5_isLetter 16 = .ok (.iconst 0, 1) := by decide +kernel
theorem dX5_isLetter_17 : decode cX5_isLetter 17 = .ok (.ireturn, 1) := by decide +kernel
theorem dX5_isToken_0 : decode cX5_isToken 0 = .ok (.aload_n 0, 1) := by decide +kernel
theorem dX5_isToken_1 : decode cX5_isToken 1 = .ok (.getfield 36, 3) := by decide +kernel
theorem dX5_isToken_4 : decode cX5_isToken 4 = .ok (.aload_n 0, 1) := by decide +kernel
theorem dX5_isToken_5 : decode cX5_isToken 5 = .ok (.getfield 46, 3) := by decide +kernel
theorem dX5_isToken_8 : decode cX5_isToken 8 = .ok (.isub, 1) := by decide +kernel
theorem dX5_isToken_9 : decode cX5_isToken 9 = .ok (.aload_n 1, 1) := by decide +kernel
theorem dX5_isToken_10 : decode cX5_isToken 10 = .ok (.invokevirtual 69, 3) := by decide +kernel
theorem dX5_isToken_13 : decode cX5_isToken 13 = .ok (.if_icmp .eq 5, 3) := by decide +kernel
theorem dX5_isToken_16 : decode cX5_isToken 16 = .ok (.iconst 0, 1) := by decide +kernel
theorem dX5_isToken_17 : decode cX5_isToken 17 = .ok (.ireturn, 1) := by decide +kernel
theorem dX5_isToken_18 : decode cX5_isToken 18 = .ok (.iconst 0, 1) := by decide +kernel
theorem dX5_isToken_19 : decode cX5_isToken 19 = .ok (.istore_n 2, 1) := by decide +kernel
theorem dX5_isToken_20 : decode cX5_isToken 20 = .ok (.iload_n 2, 1) := by decide +kernel
theorem dX5_isToken_21 : decode cX5_isToken 21 = .ok (.aload_n 1, 1) := by decide +kernel
theorem dX5_isToken_22 : decode cX5_isToken 22 = .ok (.invokevirtual 69, 3) := by decide +kernel
theorem dX5_isToken_25 : decode cX5_isToken 25 = .ok (.if_icmp .ge 32, 3) := by decide +kernel
theorem dX5_isToken_28 : decode cX5_isToken 28 = .ok (.aload_n 0, 1) := by decide +kernel
theorem dX5_isToken_29 : decode cX5_isToken 29 = .ok (.getfield 12, 3) := by decide +kernel
theorem dX5_isToken_32 : decode cX5_isToken 32 = .ok (.aload_n 0, 1) := by decide +kernel
theorem dX5_isToken_33 : decode cX5_isToken 33 = .ok (.getfield 46, 3) := by decide +kernel
theorem dX5_isToken_36 : decode cX5_isToken 36 = .ok (.iload_n 2, 1) := by decide +kernel
theorem dX5_isToken_37 : decode cX5_isToken 37 = .ok (.iadd, 1) := by decide +kernel
theorem dX5_isToken_38 : decode cX5_isToken 38 = .ok (.invokevirtual 61, 3) := by decide +kernel
theorem dX5_isToken_41 : decode cX5_isToken 41 = .ok (.aload_n 1, 1) := by decide +kernel
theorem dX5_isToken_42 : decode cX5_isToken 42 = .ok (.iload_n 2, 1) := by decide +kernel
theorem dX5_isToken_43 : decode cX5_isToken 43 = .ok (.invokevirtual 74, 3) := by decide +kernel
theorem dX5_isToken_46 : decode cX5_isToken 46 = .ok (.if_icmp .eq 5, 3) := by decide +kernel
theorem dX5_isToken_49 : decode cX5_isToken 49 = .ok (.iconst 0, 1) := by decide +kernel
theorem dX5_isToken_50 : decode cX5_isToken 50 = .ok (.ireturn, 1) := by decide +kernel
theorem dX5_isToken_51 : decode cX5_isToken 51 = .ok (.iinc 2 1, 3) := by decide +kernel
theorem dX5_isToken_54 : decode cX5_isToken 54 = .ok (.goto (-34), 3) := by decide +kernel
theorem dX5_isToken_57 : decode cX5_isToken 57 = .ok (.iconst 1, 1) := by decide +kernel
theorem dX5_isToken_58 : decode cX5_isToken 58 = .ok (.ireturn, 1) := by decide +kernel
theorem dX5_readLine_0 : decode cX5_readLine 0 = .ok (.aload_n 0, 1) := by decide +kernel
theorem dX5_readLine_1 : decode cX5_readLine 1 = .ok (.invokevirtual 77, 3) := by decide +kernel
theorem dX5_readLine_4 : decode cX5_readLine 4 = .ok (.istore_n 1, 1) := by decide +kernel
theorem dX5_readLine_5 : decode cX5_readLine 5 = .ok (.iload_n 1, 1) := by decide +kernel
theorem dX5_readLine_6 : decode cX5_readLine 6 = .ok (.ifCond .lt 27, 3) := by decide +kernel
theorem dX5_readLine_9 : decode cX5_readLine 9 = .ok (.aload_n 0, 1) := by decide +kernel
theorem dX5_readLine_10 : decode cX5_readLine 10 = .ok (.iconst 1, 1) := by decide +kernel
theorem dX5_readLine_11 : decode cX5_readLine 11 = .ok (.iload_n 1, 1) := by decide +kernel
theorem dX5_readLine_12 : decode cX5_readLine 12 = .ok (.ishl, 1) := by decide +kernel
theorem dX5_readLine_13 : decode cX5_readLine 13 = .ok (.invokevirtual 80, 3) := by decide +kernel
theorem dX5_readLine_16 : decode cX5_readLine 16 = .ok (.ifCond .eq 15, 3) := by decide +kernel
theorem dX5_readLine_19 : decode cX5_readLine 19 = .ok (.aload_n 0, 1) := by decide +kernel
theorem dX5_readLine_20 : decode cX5_readLine 20 = .ok (.iload_n 1, 1) := by decide +kernel
theorem dX5_readLine_21 : decode cX5_readLine 21 = .ok (.invokevirtual 84, 3) := by decide +kernel
theorem dX5_readLine_24 : decode cX5_readLine 24 = .ok (.ifCond .eq 7, 3) := by decide +kernel
theorem dX5_readLine_27 : decode cX5_readLine 27 = .ok (.iconst 1, 1) := by decide +kernel
theorem dX5_readLine_28 : decode cX5_readLine 28 = .ok (.goto 4, 3) := by decide +kernel
theorem dX5_readLine_31 : decode cX5_readLine 31 = .ok (.iconst 0, 1) := by decide +kernel
theorem dX5_readLine_32 : decode cX5_readLine 32 = .ok (.ireturn, 1) := by decide +kernel
theorem dX5_readLine_33 : decode cX5_readLine 33 = .ok (.aload_n 0, 1) := by decide +kernel
theorem dX5_readLine_34 : decode cX5_readLine 34 = .ok (.ldc 87, 2) := by decide +kernel
theorem dX5_readLine_36 : decode cX5_readLine 36 = .ok (.invokevirtual 54, 3) := by decide +kernel
theorem dX5_readLine_39 : decode cX5_readLine 39 = .ok (.ifCond .eq 9, 3) := by decide +kernel
theorem dX5_readLine_42 : decode cX5_readLine 42 = .ok (.aload_n 0, 1) := by decide +kernel
theorem dX5_readLine_43 : decode cX5_readLine 43 = .ok (.iconst 0, 1) := by decide +kernel
theorem dX5_readLine_44 : decode cX5_readLine 44 = .ok (.invokevirtual 89, 3) := by decide +kernel
theorem dX5_readLine_47 : decode cX5_readLine 47 = .ok (.ireturn, 1) := by decide +kernel
theorem dX5_readLine_48 : decode cX5_readLine 48 = .ok (.aload_n 0, 1) := by decide +kernel
theorem dX5_readLine_49 : decode cX5_readLine 49 = .ok (.ldc 93, 2) := by decide +kernel
theorem dX5_readLine_51 : decode cX5_readLine 51 = .ok (.invokevirtual 54, 3) := by decide +kernel
theorem dX5_readLine_54 : decode cX5_readLine 54 = .ok (.ifCond .eq 9, 3) := by decide +kernel
theorem dX5_readLine_57 : decode cX5_readLine 57 = .ok (.aload_n 0, 1) := by decide +kernel
theorem dX5_readLine_58 : decode cX5_readLine 58 = .ok (.iconst 1, 1) := by decide +kernel
theorem dX5_readLine_59 : decode cX5_readLine 59 = .ok (.invokevirtual 89, 3) := by decide +kernel
theorem dX5_readLine_62 : decode cX5_readLine 62 = .ok (.ireturn, 1) := by decide +kernel
theorem dX5_readLine_63 : decode cX5_readLine 63 = .ok (.aload_n 0, 1) := by decide +kernel
theorem dX5_readLine_64 : decode cX5_readLine 64 = .ok (.ldc 95, 2) := by decide +kernel
theorem dX5_readLine_66 : decode cX5_readLine 66 = .ok (.invokevirtual 54, 3) := by decide +kernel
theorem dX5_readLine_69 : decode cX5_readLine 69 = .ok (.ifCond .eq 24, 3) := by decide +kernel
theorem dX5_readLine_72 : decode cX5_readLine 72 = .ok (.aload_n 0, 1) := by decide +kernel
theorem dX5_readLine_73 : decode cX5_readLine 73 = .ok (.iconst 4, 1) := by decide +kernel
theorem dX5_readLine_74 : decode cX5_readLine 74 = .ok (.invokevirtual 80, 3) := by decide +kernel
theorem dX5_readLine_77 : decode cX5_readLine 77 = .ok (.ifCond .eq 14, 3) := by decide +kernel
theorem dX5_readLine_80 : decode cX5_readLine 80 = .ok (.aload_n 0, 1) := by decide +kernel
theorem dX5_readLine_81 : decode cX5_readLine 81 = .ok (.invokevirtual 97, 3) := by decide +kernel
theorem dX5_readLine_84 : decode cX5_readLine 84 = .ok (.ifCond .eq 7, 3) := by decide +kernel
theorem dX5_readLine_87 : decode cX5_readLine 87 = .ok (.iconst 1, 1) := by decide +kernel
theorem dX5_readLine_88 : decode cX5_readLine 88 = .ok (.goto 4, 3) := by decide +kernel
theorem dX5_readLine_91 : decode cX5_readLine 91 = .ok (.iconst 0, 1) := by decide +kernel
theorem dX5_readLine_92 : decode cX5_readLine 92 = .ok (.ireturn, 1) := by decide +kernel
theorem dX5_readLine_93 : decode cX5_readLine 93 = .ok (.aload_n 0, 1) := by decide +kernel
theorem dX5_readLine_94 : decode cX5_readLine 94 = .ok (.ldc 100, 2) := by decide +kernel
theorem dX5_readLine_96 : decode cX5_readLine 96 = .ok (.invokevirtual 54, 3) := by decide +kernel
theorem dX5_readLine_99 : decode cX5_readLine 99 = .ok (.ifCond .eq 23, 3) := by decide +kernel
theorem dX5_readLine_102 : decode cX5_readLine 102 = .ok (.aload_n 0, 1) := by decide +kernel
theorem dX5_readLine_103 : decode cX5_readLine 103 = .ok (.bipush 8, 2) := by decide +kernel
theorem dX5_readLine_105 : decode cX5_readLine 105 = .ok (.invokevirtual 80, 3) := by decide +kernel
theorem dX5_readLine_108 : decode cX5_readLine 108 = .ok (.ifCond .eq 14, 3) := by decide +kernel
theorem dX5_readLine_111 : decode cX5_readLine 111 = .ok (.aload_n 0, 1) := by decide +kernel
theorem dX5_readLine_112 : decode cX5_readLine 112 = .ok (.invokevirtual 102, 3) := by decide +kernel
theorem dX5_readLine_115 : decode cX5_readLine 115 = .ok (.ifCond .eq 7, 3) := by decide +kernel
theorem dX5_readLine_118 : decode cX5_readLine 118 = .ok (.iconst 1, 1) := by decide +kernel
theorem dX5_readLine_119 : decode cX5_readLine 119 = .ok (.goto 4, 3) := by decide +kernel
theorem dX5_readLine_122 : decode cX5_readLine 122 = .ok (.iconst 0, 1) := by decide +kernel
theorem dX5_readLine_123 : decode cX5_readLine 123 = .ok (.ireturn, 1) := by decide +kernel
theorem dX5_markTold_0 : decode cX5_markTold 0 = .ok (.aload_n 0, 1) := by decide +kernel
theorem dX5_markTold_1 : decode cX5_markTold 1 = .ok (.getfield 32, 3) := by decide +kernel
theorem dX5_markTold_4 : decode cX5_markTold 4 = .ok (.iload_n 1, 1) := by decide +kernel
theorem dX5_markTold_5 : decode cX5_markTold 5 = .ok (.iand, 1) := by decide +kernel
theorem dX5_markTold_6 : decode cX5_markTold 6 = .ok (.ifCond .eq 5, 3) := by decide +kernel
theorem dX5_markTold_9 : decode cX5_markTold 9 = .ok (.iconst 0, 1) := by decide +kernel
theorem dX5_markTold_10 : decode cX5_markTold 10 = .ok (.ireturn, 1) := by decide +kernel
theorem dX5_markTold_11 : decode cX5_markTold 11 = .ok (.aload_n 0, 1) := by decide +kernel
theorem dX5_markTold_12 : decode cX5_markTold 12 = .ok (.dup, 1) := by decide +kernel
theorem dX5_markTold_13 : decode cX5_markTold 13 = .ok (.getfield 32, 3) := by decide +kernel
theorem dX5_markTold_16 : decode cX5_markTold 16 = .ok (.iload_n 1, 1) := by decide +kernel
theorem dX5_markTold_17 : decode cX5_markTold 17 = .ok (.ior, 1) := by decide +kernel
theorem dX5_markTold_18 : decode cX5_markTold 18 = .ok (.putfield 32, 3) := by decide +kernel
theorem dX5_markTold_21 : decode cX5_markTold 21 = .ok (.iconst 1, 1) := by decide +kernel
theorem dX5_markTold_22 : decode cX5_markTold 22 = .ok (.ireturn, 1) := by decide +kernel
theorem dX5_sideOfToken_0 : decode cX5_sideOfToken 0 = .ok (.aload_n 0, 1) := by decide +kernel
theorem dX5_sideOfToken_1 : decode cX5_sideOfToken 1 = .ok (.ldc 105, 2) := by decide +kernel
theorem dX5_sideOfToken_3 : decode cX5_sideOfToken 3 = .ok (.invokevirtual 54, 3) := by decide +kernel
theorem dX5_sideOfToken_6 : decode cX5_sideOfToken 6 = .ok (.ifCond .eq 7, 3) := by decide +kernel
theorem dX5_sideOfToken_9 : decode cX5_sideOfToken 9 = .ok (.iconst 0, 1) := by decide +kernel
theorem dX5_sideOfToken_10 : decode cX5_sideOfToken 10 = .ok (.goto 17, 3) := by decide +kernel
theorem dX5_sideOfToken_13 : decode cX5_sideOfToken 13 = .ok (.aload_n 0, 1) := by decide +kernel
theorem dX5_sideOfToken_14 : decode cX5_sideOfToken 14 = .ok (.ldc 107, 2) := by decide +kernel
theorem dX5_sideOfToken_16 : decode cX5_sideOfToken 16 = .ok (.invokevirtual 54, 3) := by decide +kernel
theorem dX5_sideOfToken_19 : decode cX5_sideOfToken 19 = .ok (.ifCond .eq 7, 3) := by decide +kernel
theorem dX5_sideOfToken_22 : decode cX5_sideOfToken 22 = .ok (.iconst 1, 1) := by decide +kernel
theorem dX5_sideOfToken_23 : decode cX5_sideOfToken 23 = .ok (.goto 4, 3) := by decide +kernel
theorem dX5_sideOfToken_26 : decode cX5_sideOfToken 26 = .ok (.iconst (-1), 1) := by decide +kernel
theorem dX5_sideOfToken_27 : decode cX5_sideOfToken 27 = .ok (.ireturn, 1) := by decide +kernel
theorem dX5_digitOfToken_0 : decode cX5_digitOfToken 0 = .ok (.aload_n 0, 1) := by decide +kernel
theorem dX5_digitOfToken_1 : decode cX5_digitOfToken 1 = .ok (.getfield 36, 3) := by decide +kernel
theorem dX5_digitOfToken_4 : decode cX5_digitOfToken 4 = .ok (.aload_n 0, 1) := by decide +kernel
theorem dX5_digitOfToken_5 : decode cX5_digitOfToken 5 = .ok (.getfield 46, 3) := by decide +kernel
theorem dX5_digitOfToken_8 : decode cX5_digitOfToken 8 = .ok (.isub, 1) := by decide +kernel
theorem dX5_digitOfToken_9 : decode cX5_digitOfToken 9 = .ok (.iconst 1, 1) := by decide +kernel
theorem dX5_digitOfToken_10 : decode cX5_digitOfToken 10 = .ok (.if_icmp .ne 20, 3) := by decide +kernel
theorem dX5_digitOfToken_13 : decode cX5_digitOfToken 13 = .ok (.aload_n 0, 1) := by decide +kernel
theorem dX5_digitOfToken_14 : decode cX5_digitOfToken 14 = .ok (.getfield 12, 3) := by decide +kernel
theorem dX5_digitOfToken_17 : decode cX5_digitOfToken 17 = .ok (.aload_n 0, 1) := by decide +kernel
theorem dX5_digitOfToken_18 : decode cX5_digitOfToken 18 = .ok (.getfield 46, 3) := by decide +kernel
theorem dX5_digitOfToken_21 : decode cX5_digitOfToken 21 = .ok (.invokevirtual 61, 3) := by decide +kernel
theorem dX5_digitOfToken_24 : decode cX5_digitOfToken 24 = .ok (.bipush 48, 2) := by decide +kernel
theorem dX5_digitOfToken_26 : decode cX5_digitOfToken 26 = .ok (.isub, 1) := by decide +kernel
theorem dX5_digitOfToken_27 : decode cX5_digitOfToken 27 = .ok (.goto 4, 3) := by decide +kernel
theorem dX5_digitOfToken_30 : decode cX5_digitOfToken 30 = .ok (.iconst (-1), 1) := by decide +kernel
theorem dX5_digitOfToken_31 : decode cX5_digitOfToken 31 = .ok (.istore_n 2, 1) := by decide +kernel
theorem dX5_digitOfToken_32 : decode cX5_digitOfToken 32 = .ok (.iload_n 2, 1) := by decide +kernel
theorem dX5_digitOfToken_33 : decode cX5_digitOfToken 33 = .ok (.ifCond .lt 12, 3) := by decide +kernel
theorem dX5_digitOfToken_36 : decode cX5_digitOfToken 36 = .ok (.iload_n 2, 1) := by decide +kernel
theorem dX5_digitOfToken_37 : decode cX5_digitOfToken 37 = .ok (.iload_n 1, 1) := by decide +kernel
theorem dX5_digitOfToken_38 : decode cX5_digitOfToken 38 = .ok (.if_icmp .gt 7, 3) := by decide +kernel
theorem dX5_digitOfToken_41 : decode cX5_digitOfToken 41 = .ok (.iload_n 2, 1) := by decide +kernel
theorem dX5_digitOfToken_42 : decode cX5_digitOfToken 42 = .ok (.goto 4, 3) := by decide +kernel
theorem dX5_digitOfToken_45 : decode cX5_digitOfToken 45 = .ok (.iconst (-1), 1) := by decide +kernel
theorem dX5_digitOfToken_46 : decode cX5_digitOfToken 46 = .ok (.ireturn, 1) := by decide +kernel
theorem dX5_readSkills_0 : decode cX5_readSkills 0 = .ok (.aload_n 0, 1) := by decide +kernel
theorem dX5_readSkills_1 : decode cX5_readSkills 1 = .ok (.invokevirtual 39, 3) := by decide +kernel
theorem dX5_readSkills_4 : decode cX5_readSkills 4 = .ok (.iload_n 1, 1) := by decide +kernel
theorem dX5_readSkills_5 : decode cX5_readSkills 5 = .ok (.ifCond .lt 12, 3) := by decide +kernel
theorem dX5_readSkills_8 : decode cX5_readSkills 8 = .ok (.iload_n 1, 1) := by decide +kernel
theorem dX5_readSkills_9 : decode cX5_readSkills 9 = .ok (.aload_n 0, 1) := by decide +kernel
theorem dX5_readSkills_10 : decode cX5_readSkills 10 = .ok (.getfield 18, 3) := by decide +kernel
theorem dX5_readSkills_13 : decode cX5_readSkills 13 = .ok (.arraylength, 1) := by decide +kernel
theorem dX5_readSkills_14 : decode cX5_readSkills 14 = .ok (.if_icmp .lt 5, 3) := by decide +kernel
theorem dX5_readSkills_17 : decode cX5_readSkills 17 = .ok (.iconst 0, 1) := by decide +kernel
theorem dX5_readSkills_18 : decode cX5_readSkills 18 = .ok (.ireturn, 1) := by decide +kernel
theorem dX5_readSkills_19 : decode cX5_readSkills 19 = .ok (.iconst 0, 1) := by decide +kernel
theorem dX5_readSkills_20 : decode cX5_readSkills 20 = .ok (.istore_n 2, 1) := by decide +kernel
theorem dX5_readSkills_21 : decode cX5_readSkills 21 = .ok (.iload_n 2, 1) := by decide +kernel
theorem dX5_readSkills_22 : decode cX5_readSkills 22 = .ok (.iconst 5, 1) := by decide +kernel
theorem dX5_readSkills_23 : decode cX5_readSkills 23 = .ok (.if_icmp .ge 54, 3) := by decide +kernel
theorem dX5_readSkills_26 : decode cX5_readSkills 26 = .ok (.aload_n 0, 1) := by decide +kernel
theorem dX5_readSkills_27 : decode cX5_readSkills 27 = .ok (.bipush 6, 2) := by decide +kernel
theorem dX5_readSkills_29 : decode cX5_readSkills 29 = .ok (.invokevirtual 109, 3) := by decide +kernel
theorem dX5_readSkills_32 : decode cX5_readSkills 32 = .ok (.istore_n 3, 1) := by decide +kernel
theorem dX5_readSkills_33 : decode cX5_readSkills 33 = .ok (.iload_n 3, 1) := by decide +kernel
theorem dX5_readSkills_34 : decode cX5_readSkills 34 = .ok (.ifCond .ge 13, 3) := by decide +kernel
theorem dX5_readSkills_37 : decode cX5_readSkills 37 = .ok (.iload_n 2, 1) := by decide +kernel
theorem dX5_readSkills_38 : decode cX5_readSkills 38 = .ok (.ifCond .le 7, 3) := by decide +kernel
theorem dX5_readSkills_41 : decode cX5_readSkills 41 = .ok (.iconst 1, 1) := by decide +kernel
theorem dX5_readSkills_42 : decode cX5_readSkills 42 = .ok (.goto 4, 3) := by decide +kernel
theorem dX5_readSkills_45 : decode cX5_readSkills 45 = .ok (.iconst 0, 1) := by decide +kernel
theorem dX5_readSkills_46 : decode cX5_readSkills 46 = .ok (.ireturn, 1) := by decide +kernel
theorem dX5_readSkills_47 : decode cX5_readSkills 47 = .ok (.aload_n 0, 1) := by decide +kernel
theorem dX5_readSkills_48 : decode cX5_readSkills 48 = .ok (.getfield 25, 3) := by decide +kernel
theorem dX5_readSkills_51 : decode cX5_readSkills 51 = .ok (.iload_n 1, 1) := by decide +kernel
theorem dX5_readSkills_52 : decode cX5_readSkills 52 = .ok (.iload_n 2, 1) := by decide +kernel
theorem dX5_readSkills_53 : decode cX5_readSkills 53 = .ok (.iload_n 3, 1) := by decide +kernel
theorem dX5_readSkills_54 : decode cX5_readSkills 54 = .ok (.invokevirtual 113, 3) := by decide +kernel
theorem dX5_readSkills_57 : decode cX5_readSkills 57 = .ok (.aload_n 0, 1) := by decide +kernel
theorem dX5_readSkills_58 : decode cX5_readSkills 58 = .ok (.getfield 18, 3) := by decide +kernel
theorem dX5_readSkills_61 : decode cX5_readSkills 61 = .ok (.iload_n 1, 1) := by decide +kernel
theorem dX5_readSkills_62 : decode cX5_readSkills 62 = .ok (.dup2, 1) := by decide +kernel
theorem dX5_readSkills_63 : decode cX5_readSkills 63 = .ok (.iaload, 1) := by decide +kernel
theorem dX5_readSkills_64 : decode cX5_readSkills 64 = .ok (.iconst 1, 1) := by decide +kernel
theorem dX5_readSkills_65 : decode cX5_readSkills 65 = .ok (.iadd, 1) := by decide +kernel
theorem dX5_readSkills_66 : decode cX5_readSkills 66 = .ok (.iastore, 1) := by decide +kernel
theorem dX5_readSkills_67 : decode cX5_readSkills 67 = .ok (.aload_n 0, 1) := by decide +kernel
theorem dX5_readSkills_68 : decode cX5_readSkills 68 = .ok (.invokevirtual 39, 3) := by decide +kernel
theorem dX5_readSkills_71 : decode cX5_readSkills 71 = .ok (.iinc 2 1, 3) := by decide +kernel
theorem dX5_readSkills_74 : decode cX5_readSkills 74 = .ok (.goto (-53), 3) := by decide +kernel
theorem dX5_readSkills_77 : decode cX5_readSkills 77 = .ok (.iconst 1, 1) := by decide +kernel
theorem dX5_readSkills_78 : decode cX5_readSkills 78 = .ok (.ireturn, 1) := by decide +kernel
theorem dX5_readNerve_0 : decode cX5_readNerve 0 = .ok (.aload_n 0, 1) := by decide +kernel
theorem dX5_readNerve_1 : decode cX5_readNerve 1 = .ok (.invokevirtual 39, 3) := by decide +kernel
theorem dX5_readNerve_4 : decode cX5_readNerve 4 = .ok (.aload_n 0, 1) := by decide +kernel
theorem dX5_readNerve_5 : decode cX5_readNerve 5 = .ok (.invokevirtual 77, 3) := by decide +kernel
theorem dX5_readNerve_8 : decode cX5_readNerve 8 = .ok (.istore_n 2, 1) := by decide +kernel
theorem dX5_readNerve_9 : decode cX5_readNerve 9 = .ok (.iload_n 2, 1) := by decide +kernel
theorem dX5_readNerve_10 : decode cX5_readNerve 10 = .ok (.ifCond .lt 24, 3) := by decide +kernel
theorem dX5_readNerve_13 : decode cX5_readNerve 13 = .ok (.aload_n 0, 1) := by decide +kernel
theorem dX5_readNerve_14 : decode cX5_readNerve 14 = .ok (.bipush 16, 2) := by decide +kernel
theorem dX5_readNerve_16 : decode cX5_readNerve 16 = .ok (.iload_n 1, 1) := by decide +kernel
theorem dX5_readNerve_17 : decode cX5_readNerve 17 = .ok (.ifCond .eq 7, 3) := by decide +kernel
theorem dX5_readNerve_20 : decode cX5_readNerve 20 = .ok (.iconst 2, 1) := by decide +kernel
theorem dX5_readNerve_21 : decode cX5_readNerve 21 = .ok (.goto 4, 3) := by decide +kernel
theorem dX5_readNerve_24 : decode cX5_readNerve 24 = .ok (.iconst 0, 1) := by decide +kernel
theorem dX5_readNerve_25 : decode cX5_readNerve 25 = .ok (.iload_n 2, 1) := by decide +kernel
theorem dX5_readNerve_26 : decode cX5_readNerve 26 = .ok (.iadd, 1) := by decide +kernel
theorem dX5_readNerve_27 : decode cX5_readNerve 27 = .ok (.ishl, 1) := by decide +kernel
theorem dX5_readNerve_28 : decode cX5_readNerve 28 = .ok (.invokevirtual 80, 3) := by decide +kernel
theorem dX5_readNerve_31 : decode cX5_readNerve 31 = .ok (.ifCond .ne 5, 3) := by decide +kernel
theorem dX5_readNerve_34 : decode cX5_readNerve 34 = .ok (.iconst 0, 1) := by decide +kernel
theorem dX5_readNerve_35 : decode cX5_readNerve 35 = .ok (.ireturn, 1) := by decide +kernel
theorem dX5_readNerve_36 : decode cX5_readNerve 36 = .ok (.aload_n 0, 1) := by decide +kernel
theorem dX5_readNerve_37 : decode cX5_readNerve 37 = .ok (.invokevirtual 39, 3) := by decide +kernel
theorem dX5_readNerve_40 : decode cX5_readNerve 40 = .ok (.aload_n 0, 1) := by decide +kernel
theorem dX5_readNerve_41 : decode cX5_readNerve 41 = .ok (.ldc 117, 2) := by decide +kernel
theorem dX5_readNerve_43 : decode cX5_readNerve 43 = .ok (.invokevirtual 54, 3) := by decide +kernel
theorem dX5_readNerve_46 : decode cX5_readNerve 46 = .ok (.istore_n 3, 1) := by decide +kernel
theorem dX5_readNerve_47 : decode cX5_readNerve 47 = .ok (.iload_n 3, 1) := by decide +kernel
theorem dX5_readNerve_48 : decode cX5_readNerve 48 = .ok (.ifCond .eq 7, 3) := by decide +kernel
theorem dX5_readNerve_51 : decode cX5_readNerve 51 = .ok (.aload_n 0, 1) := by decide +kernel
theorem dX5_readNerve_52 : decode cX5_readNerve 52 = .ok (.invokevirtual 39, 3) := by decide +kernel
theorem dX5_readNerve_55 : decode cX5_readNerve 55 = .ok (.aload_n 0, 1) := by decide +kernel
theorem dX5_readNerve_56 : decode cX5_readNerve 56 = .ok (.iconst 3, 1) := by decide +kernel
theorem dX5_readNerve_57 : decode cX5_readNerve 57 = .ok (.invokevirtual 109, 3) := by decide +kernel
theorem dX5_readNerve_60 : decode cX5_readNerve 60 = .ok (.istore 4, 2) := by decide +kernel
theorem dX5_readNerve_62 : decode cX5_readNerve 62 = .ok (.iload 4, 2) := by decide +kernel
theorem dX5_readNerve_64 : decode cX5_readNerve 64 = .ok (.ifCond .ge 5, 3) := by decide +kernel
theorem dX5_readNerve_67 : decode cX5_readNerve 67 = .ok (.iconst 0, 1) := by decide +kernel
theorem dX5_readNerve_68 : decode cX5_readNerve 68 = .ok (.ireturn, 1) := by decide +kernel
theorem dX5_readNerve_69 : decode cX5_readNerve 69 = .ok (.aload_n 0, 1) := by decide +kernel
theorem dX5_readNerve_70 : decode cX5_readNerve 70 = .ok (.getfield 25, 3) := by decide +kernel
theorem dX5_readNerve_73 : decode cX5_readNerve 73 = .ok (.iload_n 2, 1) := by decide +kernel
theorem dX5_readNerve_74 : decode cX5_readNerve 74 = .ok (.iload_n 1, 1) := by decide +kernel
theorem dX5_readNerve_75 : decode cX5_readNerve 75 = .ok (.iload_n 3, 1) := by decide +kernel
theorem dX5_readNerve_76 : decode cX5_readNerve 76 = .ok (.ifCond .eq 9, 3) := by decide +kernel
theorem dX5_readNerve_79 : decode cX5_readNerve 79 = .ok (.iload 4, 2) := by decide +kernel
theorem dX5_readNerve_81 : decode cX5_readNerve 81 = .ok (.ineg, 1) := by decide +kernel
theorem dX5_readNerve_82 : decode cX5_readNerve 82 = .ok (.goto 5, 3) := by decide +kernel
theorem dX5_readNerve_85 : decode cX5_readNerve 85 = .ok (.iload 4, 2) := by decide +kernel
theorem dX5_readNerve_87 : decode cX5_readNerve 87 = .ok (.invokevirtual 119, 3) := by decide +kernel
theorem dX5_readNerve_90 : decode cX5_readNerve 90 = .ok (.aload_n 0, 1) := by decide +kernel
theorem dX5_readNerve_91 : decode cX5_readNerve 91 = .ok (.invokevirtual 39, 3) := by decide +kernel
theorem dX5_readNerve_94 : decode cX5_readNerve 94 = .ok (.iconst 1, 1) := by decide +kernel
theorem dX5_readNerve_95 : decode cX5_readNerve 95 = .ok (.ireturn, 1) := by decide +kernel
theorem dX5_readOrder_0 : decode cX5_readOrder 0 = .ok (.aload_n 0, 1) := by decide +kernel
theorem dX5_readOrder_1 : decode cX5_readOrder 1 = .ok (.invokevirtual 39, 3) := by decide +kernel
theorem dX5_readOrder_4 : decode cX5_readOrder 4 = .ok (.aload_n 0, 1) := by decide +kernel
theorem dX5_readOrder_5 : decode cX5_readOrder 5 = .ok (.iconst 3, 1) := by decide +kernel
theorem dX5_readOrder_6 : decode cX5_readOrder 6 = .ok (.invokevirtual 109, 3) := by decide +kernel
theorem dX5_readOrder_9 : decode cX5_readOrder 9 = .ok (.istore_n 1, 1) := by decide +kernel
theorem dX5_readOrder_10 : decode cX5_readOrder 10 = .ok (.iload_n 1, 1) := by decide +kernel
theorem dX5_readOrder_11 : decode cX5_readOrder 11 = .ok (.ifCond .ge 5, 3) := by decide +kernel
theorem dX5_readOrder_14 : decode cX5_readOrder 14 = .ok (.iconst 0, 1) := by decide +kernel
theorem dX5_readOrder_15 : decode cX5_readOrder 15 = .ok (.ireturn, 1) := by decide +kernel
theorem dX5_readOrder_16 : decode cX5_readOrder 16 = .ok (.aload_n 0, 1) := by decide +kernel
theorem dX5_readOrder_17 : decode cX5_readOrder 17 = .ok (.getfield 25, 3) := by decide +kernel
theorem dX5_readOrder_20 : decode cX5_readOrder 20 = .ok (.iload_n 1, 1) := by decide +kernel
theorem dX5_readOrder_21 : decode cX5_readOrder 21 = .ok (.putfield 123, 3) := by decide +kernel
theorem dX5_readOrder_24 : decode cX5_readOrder 24 = .ok (.aload_n 0, 1) := by decide +kernel
theorem dX5_readOrder_25 : decode cX5_readOrder 25 = .ok (.invokevirtual 39, 3) := by decide +kernel
theorem dX5_readOrder_28 : decode cX5_readOrder 28 = .ok (.iconst 1, 1) := by decide +kernel
theorem dX5_readOrder_29 : decode cX5_readOrder 29 = .ok (.ireturn, 1) := by decide +kernel
theorem dX5_readFirst_0 : decode cX5_readFirst 0 = .ok (.aload_n 0, 1) := by decide +kernel
theorem dX5_readFirst_1 : decode cX5_readFirst 1 = .ok (.invokevirtual 39, 3) := by decide +kernel
theorem dX5_readFirst_4 : decode cX5_readFirst 4 = .ok (.aload_n 0, 1) := by decide +kernel
theorem dX5_readFirst_5 : decode cX5_readFirst 5 = .ok (.invokevirtual 77, 3) := by decide +kernel
theorem dX5_readFirst_8 : decode cX5_readFirst 8 = .ok (.istore_n 1, 1) := by decide +kernel
theorem dX5_readFirst_9 : decode cX5_readFirst 9 = .ok (.iload_n 1, 1) := by decide +kernel
theorem dX5_readFirst_10 : decode cX5_readFirst 10 = .ok (.ifCond .ge 5, 3) := by decide +kernel
theorem dX5_readFirst_13 : decode cX5_readFirst 13 = .ok (.iconst 0, 1) := by decide +kernel
theorem dX5_readFirst_14 : decode cX5_readFirst 14 = .ok (.ireturn, 1) := by decide +kernel
theorem dX5_readFirst_15 : decode cX5_readFirst 15 = .ok (.aload_n 0, 1) := by decide +kernel
theorem dX5_readFirst_16 : decode cX5_readFirst 16 = .ok (.getfield 25, 3) := by decide +kernel
theorem dX5_readFirst_19 : decode cX5_readFirst 19 = .ok (.iload_n 1, 1) := by decide +kernel
theorem dX5_readFirst_20 : decode cX5_readFirst 20 = .ok (.putfield 125, 3) := by decide +kernel
theorem dX5_readFirst_23 : decode cX5_readFirst 23 = .ok (.aload_n 0, 1) := by decide +kernel
theorem dX5_readFirst_24 : decode cX5_readFirst 24 = .ok (.invokevirtual 39, 3) := by decide +kernel
theorem dX5_readFirst_27 : decode cX5_readFirst 27 = .ok (.iconst 1, 1) := by decide +kernel
theorem dX5_readFirst_28 : decode cX5_readFirst 28 = .ok (.ireturn, 1) := by decide +kernel
theorem dX6_init_0 : decode cX6_init 0 = .ok (.aload_n 0, 1) := by decide +kernel
theorem dX6_init_1 : decode cX6_init 1 = .ok (.invokespecial 3, 3) := by decide +kernel
theorem dX6_init_4 : decode cX6_init 4 = .ok (.aload_n 0, 1) := by decide +kernel
theorem dX6_init_5 : decode cX6_init 5 = .ok (.sipush 200, 3) := by decide +kernel
theorem dX6_init_8 : decode cX6_init 8 = .ok (.newarray .char, 2) := by decide +kernel
theorem dX6_init_10 : decode cX6_init 10 = .ok (.putfield 9, 3) := by decide +kernel
theorem dX6_init_13 : decode cX6_init 13 = .ok (.return_, 1) := by decide +kernel
theorem dX6_addFour_0 : decode cX6_addFour 0 = .ok (.aload_n 0, 1) := by decide +kernel
theorem dX6_addFour_1 : decode cX6_addFour 1 = .ok (.getfield 15, 3) := by decide +kernel
theorem dX6_addFour_4 : decode cX6_addFour 4 = .ok (.ifCond .lt 17, 3) := by decide +kernel
theorem dX6_addFour_7 : decode cX6_addFour 7 = .ok (.aload_n 0, 1) := by decide +kernel
theorem dX6_addFour_8 : decode cX6_addFour 8 = .ok (.getfield 15, 3) := by decide +kernel
theorem dX6_addFour_11 : decode cX6_addFour 11 = .ok (.iconst 4, 1) := by decide +kernel
theorem dX6_addFour_12 : decode cX6_addFour 12 = .ok (.iadd, 1) := by decide +kernel
theorem dX6_addFour_13 : decode cX6_addFour 13 = .ok (.aload_n 0, 1) := by decide +kernel
theorem dX6_addFour_14 : decode cX6_addFour 14 = .ok (.getfield 9, 3) := by decide +kernel
theorem dX6_addFour_17 : decode cX6_addFour 17 = .ok (.arraylength, 1) := by decide +kernel
theorem dX6_addFour_18 : decode cX6_addFour 18 = .ok (.if_icmp .le 5, 3) := by decide +kernel
theorem dX6_addFour_21 : decode cX6_addFour 21 = .ok (.iconst 0, 1) := by decide +kernel
theorem dX6_addFour_22 : decode cX6_addFour 22 = .ok (.ireturn, 1) := by decide +kernel
theorem dX6_addFour_23 : decode cX6_addFour 23 = .ok (.iconst 0, 1) := by decide +kernel
theorem dX6_addFour_24 : decode cX6_addFour 24 = .ok (.istore_n 2, 1) := by decide +kernel
theorem dX6_addFour_25 : decode cX6_addFour 25 = .ok (.iload_n 2, 1) := by decide +kernel
theorem dX6_addFour_26 : decode cX6_addFour 26 = .ok (.iconst 4, 1) := by decide +kernel
theorem dX6_addFour_27 : decode cX6_addFour 27 = .ok (.if_icmp .ge 34, 3) := by decide +kernel
theorem dX6_addFour_30 : decode cX6_addFour 30 = .ok (.aload_n 0, 1) := by decide +kernel
theorem dX6_addFour_31 : decode cX6_addFour 31 = .ok (.getfield 9, 3) := by decide +kernel
theorem dX6_addFour_34 : decode cX6_addFour 34 = .ok (.aload_n 0, 1) := by decide +kernel
theorem dX6_addFour_35 : decode cX6_addFour 35 = .ok (.getfield 15, 3) := by decide +kernel
theorem dX6_addFour_38 : decode cX6_addFour 38 = .ok (.iload_n 2, 1) := by decide +kernel
theorem dX6_addFour_39 : decode cX6_addFour 39 = .ok (.iadd, 1) := by decide +kernel
theorem dX6_addFour_40 : decode cX6_addFour 40 = .ok (.iload_n 1, 1) := by decide +kernel
theorem dX6_addFour_41 : decode cX6_addFour 41 = .ok (.bipush 24, 2) := by decide +kernel
theorem dX6_addFour_43 : decode cX6_addFour 43 = .ok (.bipush 8, 2) := by decide +kernel
theorem dX6_addFour_45 : decode cX6_addFour 45 = .ok (.iload_n 2, 1) := by decide +kernel
theorem dX6_addFour_46 : decode cX6_addFour 46 = .ok (.imul, 1) := by decide +kernel
theorem dX6_addFour_47 : decode cX6_addFour 47 = .ok (.isub, 1) := by decide +kernel
theorem dX6_addFour_48 : decode cX6_addFour 48 = .ok (.iushr, 1) := by decide +kernel
theorem dX6_addFour_49 : decode cX6_addFour 49 = .ok (.sipush 255, 3) := by decide +kernel
theorem dX6_addFour_52 : decode cX6_addFour 52 = .ok (.iand, 1) := by decide +kernel
theorem dX6_addFour_53 : decode cX6_addFour 53 = .ok (.i2c, 1) := by decide +kernel
theorem dX6_addFour_54 : decode cX6_addFour 54 = .ok (.castore, 1) := by decide +kernel
theorem dX6_addFour_55 : decode cX6_addFour 55 = .ok (.iinc 2 1, 3) := by decide +kernel
theorem dX6_addFour_58 : decode cX6_addFour 58 = .ok (.goto (-33), 3) := by decide +kernel
theorem dX6_addFour_61 : decode cX6_addFour 61 = .ok (.aload_n 0, 1) := by decide +kernel
theorem dX6_addFour_62 : decode cX6_addFour 62 = .ok (.dup, 1) := by decide +kernel
theorem dX6_addFour_63 : decode cX6_addFour 63 = .ok (.getfield 15, 3) := by decide +kernel
theorem dX6_addFour_66 : decode cX6_addFour 66 = .ok (.iconst 4, 1) := by decide +kernel
theorem dX6_addFour_67 : decode cX6_addFour 67 = .ok (.iadd, 1) := by decide +kernel
theorem dX6_addFour_68 : decode cX6_addFour 68 = .ok (.putfield 15, 3) := by decide +kernel
theorem dX6_addFour_71 : decode cX6_addFour 71 = .ok (.iconst 1, 1) := by decide +kernel
theorem dX6_addFour_72 : decode cX6_addFour 72 = .ok (.ireturn, 1) := by decide +kernel
theorem dX6_at_0 : decode cX6_at 0 = .ok (.iload_n 1, 1) := by decide +kernel
theorem dX6_at_1 : decode cX6_at 1 = .ok (.ifCond .lt 29, 3) := by decide +kernel
theorem dX6_at_4 : decode cX6_at 4 = .ok (.iload_n 1, 1) := by decide +kernel
theorem dX6_at_5 : decode cX6_at 5 = .ok (.aload_n 0, 1) := by decide +kernel
theorem dX6_at_6 : decode cX6_at 6 = .ok (.getfield 15, 3) := by decide +kernel
theorem dX6_at_9 : decode cX6_at 9 = .ok (.if_icmp .ge 21, 3) := by decide +kernel
theorem dX6_at_12 : decode cX6_at 12 = .ok (.iload_n 1, 1) := by decide +kernel
theorem dX6_at_13 : decode cX6_at 13 = .ok (.aload_n 0, 1) := by decide +kernel
theorem dX6_at_14 : decode cX6_at 14 = .ok (.getfield 9, 3) := by decide +kernel
theorem dX6_at_17 : decode cX6_at 17 = .ok (.arraylength, 1) := by decide +kernel
theorem dX6_at_18 : decode cX6_at 18 = .ok (.if_icmp .ge 12, 3) := by decide +kernel
theorem dX6_at_21 : decode cX6_at 21 = .ok (.aload_n 0, 1) := by decide +kernel
theorem dX6_at_22 : decode cX6_at 22 = .ok (.getfield 9, 3) := by decide +kernel
theorem dX6_at_25 : decode cX6_at 25 = .ok (.iload_n 1, 1) := by decide +kernel
theorem dX6_at_26 : decode cX6_at 26 = .ok (.caload, 1) := by decide +kernel
theorem dX6_at_27 : decode cX6_at 27 = .ok (.goto 4, 3) := by decide +kernel
theorem dX6_at_30 : decode cX6_at 30 = .ok (.iconst 0, 1) := by decide +kernel
theorem dX6_at_31 : decode cX6_at 31 = .ok (.ireturn, 1) := by decide +kernel
theorem dX6_firstBut_0 : decode cX6_firstBut 0 = .ok (.iconst 0, 1) := by decide +kernel
theorem dX6_firstBut_1 : decode cX6_firstBut 1 = .ok (.istore_n 2, 1) := by decide +kernel
theorem dX6_firstBut_2 : decode cX6_firstBut 2 = .ok (.iload_n 2, 1) := by decide +kernel
theorem dX6_firstBut_3 : decode cX6_firstBut 3 = .ok (.aload_n 0, 1) := by decide +kernel
theorem dX6_firstBut_4 : decode cX6_firstBut 4 = .ok (.getfield 15, 3) := by decide +kernel
theorem dX6_firstBut_7 : decode cX6_firstBut 7 = .ok (.if_icmp .ge 23, 3) := by decide +kernel
theorem dX6_firstBut_10 : decode cX6_firstBut 10 = .ok (.aload_n 1, 1) := by decide +kernel
theorem dX6_firstBut_11 : decode cX6_firstBut 11 = .ok (.aload_n 0, 1) := by decide +kernel
theorem dX6_firstBut_12 : decode cX6_firstBut 12 = .ok (.iload_n 2, 1) := by decide +kernel
theorem dX6_firstBut_13 : decode cX6_firstBut 13 = .ok (.invokevirtual 19, 3) := by decide +kernel
theorem dX6_firstBut_16 : decode cX6_firstBut 16 = .ok (.invokevirtual 23, 3) := by decide +kernel
theorem dX6_firstBut_19 : decode cX6_firstBut 19 = .ok (.ifCond .ge 5, 3) := by decide +kernel
theorem dX6_firstBut_22 : decode cX6_firstBut 22 = .ok (.iload_n 2, 1) := by decide +kernel
theorem dX6_firstBut_23 : decode cX6_firstBut 23 = .ok (.ireturn, 1) := by decide +kernel
theorem dX6_firstBut_24 : decode cX6_firstBut 24 = .ok (.iinc 2 1, 3) := by decide +kernel
theorem dX6_firstBut_27 : decode cX6_firstBut 27 = .ok (.goto (-25), 3) := by decide +kernel
theorem dX6_firstBut_30 : decode cX6_firstBut 30 = .ok (.iconst (-1), 1) := by decide +kernel
theorem dX6_firstBut_31 : decode cX6_firstBut 31 = .ok (.ireturn, 1) := by decide +kernel
theorem dX7_init_0 : decode cX7_init 0 = .ok (.aload_n 0, 1) := by decide +kernel
theorem dX7_init_1 : decode cX7_init 1 = .ok (.invokespecial 3, 3) := by decide +kernel
theorem dX7_init_4 : decode cX7_init 4 = .ok (.aload_n 0, 1) := by decide +kernel
theorem dX7_init_5 : decode cX7_init 5 = .ok (.new 9, 3) := by decide +kernel
theorem dX7_init_8 : decode cX7_init 8 = .ok (.dup, 1) := by decide +kernel
theorem dX7_init_9 : decode cX7_init 9 = .ok (.invokespecial 11, 3) := by decide +kernel
theorem dX7_init_12 : decode cX7_init 12 = .ok (.putfield 12, 3) := by decide +kernel
theorem dX7_init_15 : decode cX7_init 15 = .ok (.aload_n 0, 1) := by decide +kernel
theorem dX7_init_16 : decode cX7_init 16 = .ok (.aload_n 0, 1) := by decide +kernel
theorem dX7_init_17 : decode cX7_init 17 = .ok (.getfield 12, 3) := by decide +kernel
theorem dX7_init_20 : decode cX7_init 20 = .ok (.getfield 18, 3) := by decide +kernel
theorem dX7_init_23 : decode cX7_init 23 = .ok (.putfield 22, 3) := by decide +kernel
theorem dX7_init_26 : decode cX7_init 26 = .ok (.aload_n 0, 1) := by decide +kernel
theorem dX7_init_27 : decode cX7_init 27 = .ok (.new 23, 3) := by decide +kernel
theorem dX7_init_30 : decode cX7_init 30 = .ok (.dup, 1) := by decide +kernel
theorem dX7_init_31 : decode cX7_init 31 = .ok (.invokespecial 25, 3) := by decide +kernel
theorem dX7_init_34 : decode cX7_init 34 = .ok (.putfield 26, 3) := by decide +kernel
theorem dX7_init_37 : decode cX7_init 37 = .ok (.aload_n 0, 1) := by decide +kernel
theorem dX7_init_38 : decode cX7_init 38 = .ok (.new 23, 3) := by decide +kernel
theorem dX7_init_41 : decode cX7_init 41 = .ok (.dup, 1) := by decide +kernel
theorem dX7_init_42 : decode cX7_init 42 = .ok (.invokespecial 25, 3) := by decide +kernel
theorem dX7_init_45 : decode cX7_init 45 = .ok (.putfield 30, 3) := by decide +kernel
theorem dX7_init_48 : decode cX7_init 48 = .ok (.aload_n 0, 1) := by decide +kernel
theorem dX7_init_49 : decode cX7_init 49 = .ok (.new 33, 3) := by decide +kernel
theorem dX7_init_52 : decode cX7_init 52 = .ok (.dup, 1) := by decide +kernel
theorem dX7_init_53 : decode cX7_init 53 = .ok (.invokespecial 35, 3) := by decide +kernel
theorem dX7_init_56 : decode cX7_init 56 = .ok (.putfield 36, 3) := by decide +kernel
theorem dX7_init_59 : decode cX7_init 59 = .ok (.aload_n 0, 1) := by decide +kernel
theorem dX7_init_60 : decode cX7_init 60 = .ok (.iconst 2, 1) := by decide +kernel
theorem dX7_init_61 : decode cX7_init 61 = .ok (.anewarray 23, 3) := by decide +kernel
theorem dX7_init_64 : decode cX7_init 64 = .ok (.putfield 40, 3) := by decide +kernel
theorem dX7_init_67 : decode cX7_init 67 = .ok (.aload_n 0, 1) := by decide +kernel
theorem dX7_init_68 : decode cX7_init 68 = .ok (.iconst 2, 1) := by decide +kernel
theorem dX7_init_69 : decode cX7_init 69 = .ok (.newarray .boolean, 2) := by decide +kernel
theorem dX7_init_71 : decode cX7_init 71 = .ok (.putfield 44, 3) := by decide +kernel
theorem dX7_init_74 : decode cX7_init 74 = .ok (.aload_n 0, 1) := by decide +kernel
theorem dX7_init_75 : decode cX7_init 75 = .ok (.new 48, 3) := by decide +kernel
theorem dX7_init_78 : decode cX7_init 78 = .ok (.dup, 1) := by decide +kernel
theorem dX7_init_79 : decode cX7_init 79 = .ok (.invokespecial 50, 3) := by decide +kernel
theorem dX7_init_82 : decode cX7_init 82 = .ok (.putfield 51, 3) := by decide +kernel
theorem dX7_init_85 : decode cX7_init 85 = .ok (.aload_n 0, 1) := by decide +kernel
theorem dX7_init_86 : decode cX7_init 86 = .ok (.new 55, 3) := by decide +kernel
theorem dX7_init_89 : decode cX7_init 89 = .ok (.dup, 1) := by decide +kernel
theorem dX7_init_90 : decode cX7_init 90 = .ok (.invokespecial 57, 3) := by decide +kernel
theorem dX7_init_93 : decode cX7_init 93 = .ok (.putfield 58, 3) := by decide +kernel
theorem dX7_init_96 : decode cX7_init 96 = .ok (.aload_n 0, 1) := by decide +kernel
theorem dX7_init_97 : decode cX7_init 97 = .ok (.new 55, 3) := by decide +kernel
theorem dX7_init_100 : decode cX7_init 100 = .ok (.dup, 1) := by decide +kernel
theorem dX7_init_101 : decode cX7_init 101 = .ok (.invokespecial 57, 3) := by decide +kernel
theorem dX7_init_104 : decode cX7_init 104 = .ok (.putfield 62, 3) := by decide +kernel
theorem dX7_init_107 : decode cX7_init 107 = .ok (.aload_n 0, 1) := by decide +kernel
theorem dX7_init_108 : decode cX7_init 108 = .ok (.new 65, 3) := by decide +kernel
theorem dX7_init_111 : decode cX7_init 111 = .ok (.dup, 1) := by decide +kernel
theorem dX7_init_112 : decode cX7_init 112 = .ok (.invokespecial 67, 3) := by decide +kernel
theorem dX7_init_115 : decode cX7_init 115 = .ok (.putfield 68, 3) := by decide +kernel
theorem dX7_init_118 : decode cX7_init 118 = .ok (.aload_n 0, 1) := by decide +kernel
theorem dX7_init_119 : decode cX7_init 119 = .ok (.iconst 4, 1) := by decide +kernel
theorem dX7_init_120 : decode cX7_init 120 = .ok (.newarray .int, 2) := by decide +kernel
theorem dX7_init_122 : decode cX7_init 122 = .ok (.putfield 72, 3) := by decide +kernel
theorem dX7_init_125 : decode cX7_init 125 = .ok (.iconst 0, 1) := by decide +kernel
theorem dX7_init_126 : decode cX7_init 126 = .ok (.istore_n 1, 1) := by decide +kernel
theorem dX7_init_127 : decode cX7_init 127 = .ok (.iload_n 1, 1) := by decide +kernel
theorem dX7_init_128 : decode cX7_init 128 = .ok (.aload_n 0, 1) := by decide +kernel
theorem dX7_init_129 : decode cX7_init 129 = .ok (.getfield 40, 3) := by decide +kernel
theorem dX7_init_132 : decode cX7_init 132 = .ok (.arraylength, 1) := by decide +kernel
theorem dX7_init_133 : decode cX7_init 133 = .ok (.if_icmp .ge 22, 3) := by decide +kernel
theorem dX7_init_136 : decode cX7_init 136 = .ok (.aload_n 0, 1) := by decide +kernel
theorem dX7_init_137 : decode cX7_init 137 = .ok (.getfield 40, 3) := by decide +kernel
theorem dX7_init_140 : decode cX7_init 140 = .ok (.iload_n 1, 1) := by decide +kernel
theorem dX7_init_141 : decode cX7_init 141 = .ok (.new 23, 3) := by decide +kernel
theorem dX7_init_144 : decode cX7_init 144 = .ok (.dup, 1) := by decide +kernel
theorem dX7_init_145 : decode cX7_init 145 = .ok (.invokespecial 25, 3) := by decide +kernel
theorem dX7_init_148 : decode cX7_init 148 = .ok (.aastore, 1) := by decide +kernel
theorem dX7_init_149 : decode cX7_init 149 = .ok (.iinc 1 1, 3) := by decide +kernel
theorem dX7_init_152 : decode cX7_init 152 = .ok (.goto (-25), 3) := by decide +kernel
theorem dX7_init_155 : decode cX7_init 155 = .ok (.return_, 1) := by decide +kernel
theorem dX7_sign_0 : decode cX7_sign 0 = .ok (.aload_n 0, 1) := by decide +kernel
theorem dX7_sign_1 : decode cX7_sign 1 = .ok (.getfield 22, 3) := by decide +kernel
theorem dX7_sign_4 : decode cX7_sign 4 = .ok (.iload_n 1, 1) := by decide +kernel
theorem dX7_sign_5 : decode cX7_sign 5 = .ok (.invokevirtual 76, 3) := by decide +kernel
theorem dX7_sign_8 : decode cX7_sign 8 = .ok (.ifCond .eq 13, 3) := by decide +kernel
theorem dX7_sign_11 : decode cX7_sign 11 = .ok (.aload_n 0, 1) := by decide +kernel
theorem dX7_sign_12 : decode cX7_sign 12 = .ok (.getfield 22, 3) := by decide +kernel
theorem dX7_sign_15 : decode cX7_sign 15 = .ok (.getfield 82, 3) := by decide +kernel
theorem dX7_sign_18 : decode cX7_sign 18 = .ok (.goto 4, 3) := by decide +kernel
theorem dX7_sign_21 : decode cX7_sign 21 = .ok (.iconst (-1), 1) := by decide +kernel
theorem dX7_sign_22 : decode cX7_sign 22 = .ok (.ireturn, 1) := by decide +kernel
theorem dX7_end_0 : decode cX7_end 0 = .ok (.iload_n 1, 1) := by decide +kernel
theorem dX7_end_1 : decode cX7_end 1 = .ok (.ifCond .lt 14, 3) := by decide +kernel
theorem dX7_end_4 : decode cX7_end 4 = .ok (.iload_n 1, 1) := by decide +kernel
theorem dX7_end_5 : decode cX7_end 5 = .ok (.aload_n 0, 1) := by decide +kernel
theorem dX7_end_6 : decode cX7_end 6 = .ok (.getfield 22, 3) := by decide +kernel
theorem dX7_end_9 : decode cX7_end 9 = .ok (.getfield 82, 3) := by decide +kernel
theorem dX7_end_12 : decode cX7_end 12 = .ok (.if_icmp .le 5, 3) := by decide +kernel
theorem dX7_end_15 : decode cX7_end 15 = .ok (.iconst 0, 1) := by decide +kernel
theorem dX7_end_16 : decode cX7_end 16 = .ok (.ireturn, 1) := by decide +kernel
theorem dX7_end_17 : decode cX7_end 17 = .ok (.aload_n 0, 1) := by decide +kernel
theorem dX7_end_18 : decode cX7_end 18 = .ok (.getfield 22, 3) := by decide +kernel
theorem dX7_end_21 : decode cX7_end 21 = .ok (.iload_n 1, 1) := by decide +kernel
theorem dX7_end_22 : decode cX7_end 22 = .ok (.putfield 82, 3) := by decide +kernel
theorem dX7_end_25 : decode cX7_end 25 = .ok (.iconst 1, 1) := by decide +kernel
theorem dX7_end_26 : decode cX7_end 26 = .ok (.ireturn, 1) := by decide +kernel
theorem dX7_teams_0 : decode cX7_teams 0 = .ok (.aload_n 0, 1) := by decide +kernel
theorem dX7_teams_1 : decode cX7_teams 1 = .ok (.getfield 12, 3) := by decide +kernel
theorem dX7_teams_4 : decode cX7_teams 4 = .ok (.invokevirtual 86, 3) := by decide +kernel
theorem dX7_teams_7 : decode cX7_teams 7 = .ok (.istore_n 1, 1) := by decide +kernel
theorem dX7_teams_8 : decode cX7_teams 8 = .ok (.aload_n 0, 1) := by decide +kernel
theorem dX7_teams_9 : decode cX7_teams 9 = .ok (.getfield 22, 3) := by decide +kernel
theorem dX7_teams_12 : decode cX7_teams 12 = .ok (.iconst 0, 1) := by decide +kernel
theorem dX7_teams_13 : decode cX7_teams 13 = .ok (.putfield 82, 3) := by decide +kernel
theorem dX7_teams_16 : decode cX7_teams 16 = .ok (.iload_n 1, 1) := by decide +kernel
theorem dX7_teams_17 : decode cX7_teams 17 = .ok (.ifCond .lt 9, 3) := by decide +kernel
theorem dX7_teams_20 : decode cX7_teams 20 = .ok (.sipush (-1000), 3) := by decide +kernel
theorem dX7_teams_23 : decode cX7_teams 23 = .ok (.iload_n 1, 1) := by decide +kernel
theorem dX7_teams_24 : decode cX7_teams 24 = .ok (.isub, 1) := by decide +kernel
theorem dX7_teams_25 : decode cX7_teams 25 = .ok (.ireturn, 1) := by decide +kernel
theorem dX7_teams_26 : decode cX7_teams 26 = .ok (.aload_n 0, 1) := by decide +kernel
theorem dX7_teams_27 : decode cX7_teams 27 = .ok (.getfield 26, 3) := by decide +kernel
theorem dX7_teams_30 : decode cX7_teams 30 = .ok (.aload_n 0, 1) := by decide +kernel
theorem dX7_teams_31 : decode cX7_teams 31 = .ok (.getfield 12, 3) := by decide +kernel
theorem dX7_teams_34 : decode cX7_teams 34 = .ok (.getfield 90, 3) := by decide +kernel
theorem dX7_teams_37 : decode cX7_teams 37 = .ok (.invokevirtual 93, 3) := by decide +kernel
theorem dX7_teams_40 : decode cX7_teams 40 = .ok (.aload_n 0, 1) := by decide +kernel
theorem dX7_teams_41 : decode cX7_teams 41 = .ok (.getfield 36, 3) := by decide +kernel
theorem dX7_teams_44 : decode cX7_teams 44 = .ok (.invokevirtual 97, 3) := by decide +kernel
theorem dX7_teams_47 : decode cX7_teams 47 = .ok (.aload_n 0, 1) := by decide +kernel
theorem dX7_teams_48 : decode cX7_teams 48 = .ok (.getfield 68, 3) := by decide +kernel
theorem dX7_teams_51 : decode cX7_teams 51 = .ok (.iconst 0, 1) := by decide +kernel
theorem dX7_teams_52 : decode cX7_teams 52 = .ok (.putfield 100, 3) := by decide +kernel
theorem dX7_teams_55 : decode cX7_teams 55 = .ok (.iconst 0, 1) := by decide +kernel
theorem dX7_teams_56 : decode cX7_teams 56 = .ok (.istore_n 2, 1) := by decide +kernel
theorem dX7_teams_57 : decode cX7_teams 57 = .ok (.iload_n 2, 1) := by decide +kernel
theorem dX7_teams_58 : decode cX7_teams 58 = .ok (.aload_n 0, 1) := by decide +kernel
theorem dX7_teams_59 : decode cX7_teams 59 = .ok (.getfield 44, 3) := by decide +kernel
theorem dX7_teams_62 : decode cX7_teams 62 = .ok (.arraylength, 1) := by decide +kernel
theorem dX7_teams_63 : decode cX7_teams 63 = .ok (.if_icmp .ge 16, 3) := by decide +kernel
theorem dX7_teams_66 : decode cX7_teams 66 = .ok (.aload_n 0, 1) := by decide +kernel
theorem dX7_teams_67 : decode cX7_teams 67 = .ok (.getfield 44, 3) := by decide +kernel
theorem dX7_teams_70 : decode cX7_teams 70 = .ok (.iload_n 2, 1) := by decide +kernel
theorem dX7_teams_71 : decode cX7_teams 71 = .ok (.iconst 0, 1) := by decide +kernel
theorem dX7_teams_72 : decode cX7_teams 72 = .ok (.bastore, 1) := by decide +kernel
theorem dX7_teams_73 : decode cX7_teams 73 = .ok (.iinc 2 1, 3) := by decide +kernel
theorem dX7_teams_76 : decode cX7_teams 76 = .ok (.goto (-19), 3) := by decide +kernel
theorem dX7_teams_79 : decode cX7_teams 79 = .ok (.aload_n 0, 1) := by decide +kernel
theorem dX7_teams_80 : decode cX7_teams 80 = .ok (.getfield 26, 3) := by decide +kernel
theorem dX7_teams_83 : decode cX7_teams 83 = .ok (.getfield 104, 3) := by decide +kernel
theorem dX7_teams_86 : decode cX7_teams 86 = .ok (.ireturn, 1) := by decide +kernel
theorem dX7_side_0 : decode cX7_side 0 = .ok (.aload_n 0, 1) := by decide +kernel
theorem dX7_side_1 : decode cX7_side 1 = .ok (.iload_n 1, 1) := by decide +kernel
theorem dX7_side_2 : decode cX7_side 2 = .ok (.invokevirtual 107, 3) := by decide +kernel
theorem dX7_side_5 : decode cX7_side 5 = .ok (.ifCond .ne 6, 3) := by decide +kernel
theorem dX7_side_8 : decode cX7_side 8 = .ok (.ldc 110, 2) := by decide +kernel
theorem dX7_side_10 : decode cX7_side 10 = .ok (.ireturn, 1) := by decide +kernel
theorem dX7_side_11 : decode cX7_side 11 = .ok (.iload_n 2, 1) := by decide +kernel
theorem dX7_side_12 : decode cX7_side 12 = .ok (.tableswitch 70 0 3 #[32, 42, 52, 61], 32) := by decide +kernel
theorem dX7_side_44 : decode cX7_side 44 = .ok (.aload_n 0, 1) := by decide +kernel
theorem dX7_side_45 : decode cX7_side 45 = .ok (.getfield 26, 3) := by decide +kernel
theorem dX7_side_48 : decode cX7_side 48 = .ok (.iload_n 1, 1) := by decide +kernel
theorem dX7_side_49 : decode cX7_side 49 = .ok (.iconst 0, 1) := by decide +kernel
theorem dX7_side_50 : decode cX7_side 50 = .ok (.invokevirtual 111, 3) := by decide +kernel
theorem dX7_side_53 : decode cX7_side 53 = .ok (.ireturn, 1) := by decide +kernel
theorem dX7_side_54 : decode cX7_side 54 = .ok (.aload_n 0, 1) := by decide +kernel
theorem dX7_side_55 : decode cX7_side 55 = .ok (.getfield 26, 3) := by decide +kernel
theorem dX7_side_58 : decode cX7_side 58 = .ok (.iload_n 1, 1) := by decide +kernel
theorem dX7_side_59 : decode cX7_side 59 = .ok (.iconst 1, 1) := by decide +kernel
theorem dX7_side_60 : decode cX7_side 60 = .ok (.invokevirtual 111, 3) := by decide +kernel
theorem dX7_side_63 : decode cX7_side 63 = .ok (.ireturn, 1) := by decide +kernel
theorem dX7_side_64 : decode cX7_side 64 = .ok (.aload_n 0, 1) := by decide +kernel

theorem dX8_readLine_89 : decode cX8_readLine 89 = .ok (.aload_n 0, 1) := by decide +kernel
theorem dX8_readLine_90 : decode cX8_readLine 90 = .ok (.iconst 3, 1) := by decide +kernel
theorem dX8_readLine_91 : decode cX8_readLine 91 = .ok (.invokevirtual 152, 3) := by decide +kernel
theorem dX8_readLine_94 : decode cX8_readLine 94 = .ok (.iastore, 1) := by decide +kernel
theorem dX8_readLine_95 : decode cX8_readLine 95 = .ok (.goto 37, 3) := by decide +kernel
theorem dX8_readLine_98 : decode cX8_readLine 98 = .ok (.aload_n 0, 1) := by decide +kernel
theorem dX8_readLine_99 : decode cX8_readLine 99 = .ok (.ldc 182, 2) := by decide +kernel
theorem dX8_readLine_101 : decode cX8_readLine 101 = .ok (.bipush 7, 2) := by decide +kernel
theorem dX8_readLine_103 : decode cX8_readLine 103 = .ok (.invokevirtual 162, 3) := by decide +kernel
theorem dX8_readLine_106 : decode cX8_readLine 106 = .ok (.ifCond .eq 18, 3) := by decide +kernel
theorem dX8_readLine_109 : decode cX8_readLine 109 = .ok (.aload_n 0, 1) := by decide +kernel
theorem dX8_readLine_110 : decode cX8_readLine 110 = .ok (.getfield 29, 3) := by decide +kernel
theorem dX8_readLine_113 : decode cX8_readLine 113 = .ok (.iconst 2, 1) := by decide +kernel
theorem dX8_readLine_114 : decode cX8_readLine 114 = .ok (.aload_n 0, 1) := by decide +kernel
theorem dX8_readLine_115 : decode cX8_readLine 115 = .ok (.bipush 8, 2) := by decide +kernel
theorem dX8_readLine_117 : decode cX8_readLine 117 = .ok (.invokevirtual 156, 3) := by decide +kernel
theorem dX8_readLine_120 : decode cX8_readLine 120 = .ok (.iastore, 1) := by decide +kernel
theorem dX8_readLine_121 : decode cX8_readLine 121 = .ok (.goto 11, 3) := by decide +kernel
theorem dX8_readLine_124 : decode cX8_readLine 124 = .ok (.aload_n 0, 1) := by decide +kernel
theorem dX8_readLine_125 : decode cX8_readLine 125 = .ok (.aload_n 0, 1) := by decide +kernel
theorem dX8_readLine_126 : decode cX8_readLine 126 = .ok (.getfield 104, 3) := by decide +kernel
theorem dX8_readLine_129 : decode cX8_readLine 129 = .ok (.invokevirtual 141, 3) := by decide +kernel
theorem dX8_readLine_132 : decode cX8_readLine 132 = .ok (.return_, 1) := by decide +kernel
theorem dX8_teams_0 : decode cX8_teams 0 = .ok (.aload_n 0, 1) := by decide +kernel
theorem dX8_teams_1 : decode cX8_teams 1 = .ok (.iconst 0, 1) := by decide +kernel
theorem dX8_teams_2 : decode cX8_teams 2 = .ok (.putfield 75, 3) := by decide +kernel
theorem dX8_teams_5 : decode cX8_teams 5 = .ok (.aload_n 0, 1) := by decide +kernel
theorem dX8_teams_6 : decode cX8_teams 6 = .ok (.iconst 0, 1) := by decide +kernel
theorem dX8_teams_7 : decode cX8_teams 7 = .ok (.putfield 104, 3) := by decide +kernel
theorem dX8_teams_10 : decode cX8_teams 10 = .ok (.aload_n 0, 1) := by decide +kernel
theorem dX8_teams_11 : decode cX8_teams 11 = .ok (.iconst 1, 1) := by decide +kernel
theorem dX8_teams_12 : decode cX8_teams 12 = .ok (.putfield 97, 3) := by decide +kernel
theorem dX8_teams_15 : decode cX8_teams 15 = .ok (.aload_n 0, 1) := by decide +kernel
theorem dX8_teams_16 : decode cX8_teams 16 = .ok (.iconst 0, 1) := by decide +kernel
theorem dX8_teams_17 : decode cX8_teams 17 = .ok (.putfield 149, 3) := by decide +kernel
theorem dX8_teams_20 : decode cX8_teams 20 = .ok (.aload_n 0, 1) := by decide +kernel
theorem dX8_teams_21 : decode cX8_teams 21 = .ok (.getfield 32, 3) := by decide +kernel
theorem dX8_teams_24 : decode cX8_teams 24 = .ok (.iconst 0, 1) := by decide +kernel
theorem dX8_teams_25 : decode cX8_teams 25 = .ok (.iconst 0, 1) := by decide +kernel
theorem dX8_teams_26 : decode cX8_teams 26 = .ok (.iastore, 1) := by decide +kernel
theorem dX8_teams_27 : decode cX8_teams 27 = .ok (.aload_n 0, 1) := by decide +kernel
theorem dX8_teams_28 : decode cX8_teams 28 = .ok (.getfield 32, 3) := by decide +kernel
theorem dX8_teams_31 : decode cX8_teams 31 = .ok (.iconst 1, 1) := by decide +kernel
theorem dX8_teams_32 : decode cX8_teams 32 = .ok (.iconst 0, 1) := by decide +kernel
theorem dX8_teams_33 : decode cX8_teams 33 = .ok (.iastore, 1) := by decide +kernel
theorem dX8_teams_34 : decode cX8_teams 34 = .ok (.iconst 0, 1) := by decide +kernel
theorem dX8_teams_35 : decode cX8_teams 35 = .ok (.istore_n 1, 1) := by decide +kernel
theorem dX8_teams_36 : decode cX8_teams 36 = .ok (.iload_n 1, 1) := by decide +kernel
theorem dX8_teams_37 : decode cX8_teams 37 = .ok (.bipush 78, 2) := by decide +kernel
theorem dX8_teams_39 : decode cX8_teams 39 = .ok (.if_icmp .ge 16, 3) := by decide +kernel
theorem dX8_teams_42 : decode cX8_teams 42 = .ok (.aload_n 0, 1) := by decide +kernel
theorem dX8_teams_43 : decode cX8_teams 43 = .ok (.getfield 29, 3) := by decide +kernel
theorem dX8_teams_46 : decode cX8_teams 46 = .ok (.iload_n 1, 1) := by decide +kernel
theorem dX8_teams_47 : decode cX8_teams 47 = .ok (.iconst 0, 1) := by decide +kernel
theorem dX8_teams_48 : decode cX8_teams 48 = .ok (.iastore, 1) := by decide +kernel
theorem dX8_teams_49 : decode cX8_teams 49 = .ok (.iinc 1 1, 3) := by decide +kernel
theorem dX8_teams_52 : decode cX8_teams 52 = .ok (.goto (-16), 3) := by decide +kernel
theorem dX8_teams_55 : decode cX8_teams 55 = .ok (.aload_n 0, 1) := by decide +kernel
theorem dX8_teams_56 : decode cX8_teams 56 = .ok (.invokevirtual 184, 3) := by decide +kernel
theorem dX8_teams_59 : decode cX8_teams 59 = .ok (.aload_n 0, 1) := by decide +kernel
theorem dX8_teams_60 : decode cX8_teams 60 = .ok (.bipush 59, 2) := by decide +kernel
theorem dX8_teams_62 : decode cX8_teams 62 = .ok (.invokevirtual 159, 3) := by decide +kernel
theorem dX8_teams_65 : decode cX8_teams 65 = .ok (.ifCond .eq 10, 3) := by decide +kernel
theorem dX8_teams_68 : decode cX8_teams 68 = .ok (.aload_n 0, 1) := by decide +kernel
theorem dX8_teams_69 : decode cX8_teams 69 = .ok (.invokevirtual 184, 3) := by decide +kernel
theorem dX8_teams_72 : decode cX8_teams 72 = .ok (.goto (-13), 3) := by decide +kernel
theorem dX8_teams_75 : decode cX8_teams 75 = .ok (.aload_n 0, 1) := by decide +kernel
theorem dX8_teams_76 : decode cX8_teams 76 = .ok (.getfield 97, 3) := by decide +kernel
theorem dX8_teams_79 : decode cX8_teams 79 = .ok (.ifCond .eq 42, 3) := by decide +kernel
theorem dX8_teams_82 : decode cX8_teams 82 = .ok (.aload_n 0, 1) := by decide +kernel
theorem dX8_teams_83 : decode cX8_teams 83 = .ok (.invokevirtual 187, 3) := by decide +kernel
theorem dX8_teams_86 : decode cX8_teams 86 = .ok (.ifCond .eq 27, 3) := by decide +kernel
theorem dX8_teams_89 : decode cX8_teams 89 = .ok (.aload_n 0, 1) := by decide +kernel
theorem dX8_teams_90 : decode cX8_teams 90 = .ok (.getfield 32, 3) := by decide +kernel
theorem dX8_teams_93 : decode cX8_teams 93 = .ok (.iconst 0, 1) := by decide +kernel
theorem dX8_teams_94 : decode cX8_teams 94 = .ok (.iaload, 1) := by decide +kernel
theorem dX8_teams_95 : decode cX8_teams 95 = .ok (.ifCond .eq 18, 3) := by decide +kernel
theorem dX8_teams_98 : decode cX8_teams 98 = .ok (.aload_n 0, 1) := by decide +kernel
theorem dX8_teams_99 : decode cX8_teams 99 = .ok (.getfield 32, 3) := by decide +kernel
theorem dX8_teams_102 : decode cX8_teams 102 = .ok (.iconst 0, 1) := by decide +kernel
theorem dX8_teams_103 : decode cX8_teams 103 = .ok (.iaload, 1) := by decide +kernel
theorem dX8_teams_104 : decode cX8_teams 104 = .ok (.aload_n 0, 1) := by decide +kernel
theorem dX8_teams_105 : decode cX8_teams 105 = .ok (.getfield 32, 3) := by decide +kernel
theorem dX8_teams_108 : decode cX8_teams 108 = .ok (.iconst 1, 1) := by decide +kernel
theorem dX8_teams_109 : decode cX8_teams 109 = .ok (.iaload, 1) := by decide +kernel
theorem dX8_teams_110 : decode cX8_teams 110 = .ok (.if_icmp .eq 11, 3) := by decide +kernel
theorem dX8_teams_113 : decode cX8_teams 113 = .ok (.aload_n 0, 1) := by decide +kernel
theorem dX8_teams_114 : decode cX8_teams 114 = .ok (.aload_n 0, 1) := by decide +kernel
theorem dX8_teams_115 : decode cX8_teams 115 = .ok (.getfield 104, 3) := by decide +kernel
theorem dX8_teams_118 : decode cX8_teams 118 = .ok (.invokevirtual 141, 3) := by decide +kernel
theorem dX8_teams_121 : decode cX8_teams 121 = .ok (.aload_n 0, 1) := by decide +kernel
theorem dX8_teams_122 : decode cX8_teams 122 = .ok (.iconst 0, 1) := by decide +kernel
theorem dX8_teams_123 : decode cX8_teams 123 = .ok (.putfield 94, 3) := by decide +kernel
theorem dX8_teams_126 : decode cX8_teams 126 = .ok (.aload_n 0, 1) := by decide +kernel
theorem dX8_teams_127 : decode cX8_teams 127 = .ok (.getfield 97, 3) := by decide +kernel
theorem dX8_teams_130 : decode cX8_teams 130 = .ok (.ifCond .ne 12, 3) := by decide +kernel
theorem dX8_teams_133 : decode cX8_teams 133 = .ok (.sipush (-1000), 3) := by decide +kernel
theorem dX8_teams_136 : decode cX8_teams 136 = .ok (.aload_n 0, 1) := by decide +kernel
theorem dX8_teams_137 : decode cX8_teams 137 = .ok (.getfield 101, 3) := by decide +kernel
theorem dX8_teams_140 : decode cX8_teams 140 = .ok (.isub, 1) := by decide +kernel
theorem dX8_teams_141 : decode cX8_teams 141 = .ok (.ireturn, 1) := by decide +kernel
theorem dX8_teams_142 : decode cX8_teams 142 = .ok (.aload_n 0, 1) := by decide +kernel
theorem dX8_teams_143 : decode cX8_teams 143 = .ok (.getfield 29, 3) := by decide +kernel
theorem dX8_teams_146 : decode cX8_teams 146 = .ok (.iconst 0, 1) := by decide +kernel
theorem dX8_teams_147 : decode cX8_teams 147 = .ok (.aload_n 0, 1) := by decide +kernel
theorem dX8_teams_148 : decode cX8_teams 148 = .ok (.getfield 32, 3) := by decide +kernel
theorem dX8_teams_151 : decode cX8_teams 151 = .ok (.iconst 0, 1) := by decide +kernel
theorem dX8_teams_152 : decode cX8_teams 152 = .ok (.iaload, 1) := by decide +kernel
theorem dX8_teams_153 : decode cX8_teams 153 = .ok (.iastore, 1) := by decide +kernel
theorem dX8_teams_154 : decode cX8_teams 154 = .ok (.iconst 0, 1) := by decide +kernel
theorem dX8_teams_155 : decode cX8_teams 155 = .ok (.istore_n 1, 1) := by decide +kernel
theorem dX8_teams_156 : decode cX8_teams 156 = .ok (.iload_n 1, 1) := by decide +kernel
theorem dX8_teams_157 : decode cX8_teams 157 = .ok (.bipush 78, 2) := by decide +kernel
theorem dX8_teams_159 : decode cX8_teams 159 = .ok (.if_icmp .ge 21, 3) := by decide +kernel
theorem dX8_teams_162 : decode cX8_teams 162 = .ok (.aload_n 0, 1) := by decide +kernel
theorem dX8_teams_163 : decode cX8_teams 163 = .ok (.getfield 9, 3) := by decide +kernel
theorem dX8_teams_166 : decode cX8_teams 166 = .ok (.iload_n 1, 1) := by decide +kernel
theorem dX8_teams_167 : decode cX8_teams 167 = .ok (.aload_n 0, 1) := by decide +kernel
theorem dX8_teams_168 : decode cX8_teams 168 = .ok (.getfield 29, 3) := by decide +kernel
theorem dX8_teams_171 : decode cX8_teams 171 = .ok (.iload_n 1, 1) := by decide +kernel
theorem dX8_teams_172 : decode cX8_teams 172 = .ok (.iaload, 1) := by decide +kernel
theorem dX8_teams_173 : decode cX8_teams 173 = .ok (.iastore, 1) := by decide +kernel
theorem dX8_teams_174 : decode cX8_teams 174 = .ok (.iinc 1 1, 3) := by decide +kernel
theorem dX8_teams_177 : decode cX8_teams 177 = .ok (.goto (-21), 3) := by decide +kernel
theorem dX8_teams_180 : decode cX8_teams 180 = .ok (.aload_n 0, 1) := by decide +kernel
theorem dX8_teams_181 : decode cX8_teams 181 = .ok (.iconst 0, 1) := by decide +kernel
theorem dX8_teams_182 : decode cX8_teams 182 = .ok (.putfield 91, 3) := by decide +kernel
theorem dX8_teams_185 : decode cX8_teams 185 = .ok (.aload_n 0, 1) := by decide +kernel
theorem dX8_teams_186 : decode cX8_teams 186 = .ok (.getfield 21, 3) := by decide +kernel
theorem dX8_teams_189 : decode cX8_teams 189 = .ok (.iconst 0, 1) := by decide +kernel
theorem dX8_teams_190 : decode cX8_teams 190 = .ok (.iconst 0, 1) := by decide +kernel
theorem dX8_teams_191 : decode cX8_teams 191 = .ok (.bastore, 1) := by decide +kernel
theorem dX8_teams_192 : decode cX8_teams 192 = .ok (.aload_n 0, 1) := by decide +kernel
theorem dX8_teams_193 : decode cX8_teams 193 = .ok (.getfield 21, 3) := by decide +kernel
theorem dX8_teams_196 : decode cX8_teams 196 = .ok (.iconst 1, 1) := by decide +kernel
theorem dX8_teams_197 : decode cX8_teams 197 = .ok (.iconst 0, 1) := by decide +kernel
theorem dX8_teams_198 : decode cX8_teams 198 = .ok (.bastore, 1) := by decide +kernel
theorem dX8_teams_199 : decode cX8_teams 199 = .ok (.aload_n 0, 1) := by decide +kernel
theorem dX8_teams_200 : decode cX8_teams 200 = .ok (.invokevirtual 190, 3) := by decide +kernel
theorem dX8_teams_203 : decode cX8_teams 203 = .ok (.ireturn, 1) := by decide +kernel
theorem dX8_begin_0 : decode cX8_begin 0 = .ok (.aload_n 0, 1) := by decide +kernel
theorem dX8_begin_1 : decode cX8_begin 1 = .ok (.aload_n 0, 1) := by decide +kernel
theorem dX8_begin_2 : decode cX8_begin 2 = .ok (.getfield 9, 3) := by decide +kernel
theorem dX8_begin_5 : decode cX8_begin 5 = .ok (.iconst 1, 1) := by decide +kernel
theorem dX8_begin_6 : decode cX8_begin 6 = .ok (.iaload, 1) := by decide +kernel
theorem dX8_begin_7 : decode cX8_begin 7 = .ok (.putfield 193, 3) := by decide +kernel
theorem dX8_begin_10 : decode cX8_begin 10 = .ok (.aload_n 0, 1) := by decide +kernel
theorem dX8_begin_11 : decode cX8_begin 11 = .ok (.aload_n 0, 1) := by decide +kernel
theorem dX8_begin_12 : decode cX8_begin 12 = .ok (.getfield 9, 3) := by decide +kernel
theorem dX8_begin_15 : decode cX8_begin 15 = .ok (.iconst 2, 1) := by decide +kernel
theorem dX8_begin_16 : decode cX8_begin 16 = .ok (.iaload, 1) := by decide +kernel
theorem dX8_begin_17 : decode cX8_begin 17 = .ok (.putfield 196, 3) := by decide +kernel
theorem dX8_begin_20 : decode cX8_begin 20 = .ok (.iconst 0, 1) := by decide +kernel
theorem dX8_begin_21 : decode cX8_begin 21 = .ok (.istore_n 1, 1) := by decide +kernel
theorem dX8_begin_22 : decode cX8_begin 22 = .ok (.iload_n 1, 1) := by decide +kernel
theorem dX8_begin_23 : decode cX8_begin 23 = .ok (.bipush 10, 2) := by decide +kernel
theorem dX8_begin_25 : decode cX8_begin 25 = .ok (.if_icmp .ge 24, 3) := by decide +kernel
theorem dX8_begin_28 : decode cX8_begin 28 = .ok (.aload_n 0, 1) := by decide +kernel
theorem dX8_begin_29 : decode cX8_begin 29 = .ok (.getfield 35, 3) := by decide +kernel
theorem dX8_begin_32 : decode cX8_begin 32 = .ok (.iload_n 1, 1) := by decide +kernel
theorem dX8_begin_33 : decode cX8_begin 33 = .ok (.aload_n 0, 1) := by decide +kernel
theorem dX8_begin_34 : decode cX8_begin 34 = .ok (.getfield 9, 3) := by decide +kernel
theorem dX8_begin_37 : decode cX8_begin 37 = .ok (.bipush 8, 2) := by decide +kernel
theorem dX8_begin_39 : decode cX8_begin 39 = .ok (.iload_n 1, 1) := by decide +kernel
theorem dX8_begin_40 : decode cX8_begin 40 = .ok (.iadd, 1) := by decide +kernel
theorem dX8_begin_41 : decode cX8_begin 41 = .ok (.iaload, 1) := by decide +kernel
theorem dX8_begin_42 : decode cX8_begin 42 = .ok (.iastore, 1) := by decide +kernel
theorem dX8_begin_43 : decode cX8_begin 43 = .ok (.iinc 1 1, 3) := by decide +kernel
theorem dX8_begin_46 : decode cX8_begin 46 = .ok (.goto (-24), 3) := by decide +kernel
theorem dX8_begin_49 : decode cX8_begin 49 = .ok (.aload_n 0, 1) := by decide +kernel
theorem dX8_begin_50 : decode cX8_begin 50 = .ok (.invokevirtual 199, 3) := by decide +kernel
theorem dX8_begin_53 : decode cX8_begin 53 = .ok (.return_, 1) := by decide +kernel
theorem dX8_start_0 : decode cX8_start 0 = .ok (.aload_n 0, 1) := by decide +kernel
theorem dX8_start_1 : decode cX8_start 1 = .ok (.getfield 38, 3) := by decide +kernel
theorem dX8_start_4 : decode cX8_start 4 = .ok (.iconst 0, 1) := by decide +kernel
theorem dX8_start_5 : decode cX8_start 5 = .ok (.iconst 0, 1) := by decide +kernel
theorem dX8_start_6 : decode cX8_start 6 = .ok (.iastore, 1) := by decide +kernel
theorem dX8_start_7 : decode cX8_start 7 = .ok (.aload_n 0, 1) := by decide +kernel
theorem dX8_start_8 : decode cX8_start 8 = .ok (.getfield 38, 3) := by decide +kernel
theorem dX8_start_11 : decode cX8_start 11 = .ok (.iconst 1, 1) := by decide +kernel
theorem dX8_start_12 : decode cX8_start 12 = .ok (.iconst 0, 1) := by decide +kernel
theorem dX8_start_13 : decode cX8_start 13 = .ok (.iastore, 1) := by decide +kernel
theorem dX8_start_14 : decode cX8_start 14 = .ok (.aload_n 0, 1) := by decide +kernel
theorem dX8_start_15 : decode cX8_start 15 = .ok (.getfield 41, 3) := by decide +kernel
theorem dX8_start_18 : decode cX8_start 18 = .ok (.iconst 0, 1) := by decide +kernel
theorem dX8_start_19 : decode cX8_start 19 = .ok (.iconst 0, 1) := by decide +kernel
theorem dX8_start_20 : decode cX8_start 20 = .ok (.iastore, 1) := by decide +kernel
theorem dX8_start_21 : decode cX8_start 21 = .ok (.aload_n 0, 1) := by decide +kernel
theorem dX8_start_22 : decode cX8_start 22 = .ok (.getfield 41, 3) := by decide +kernel
theorem dX8_start_25 : decode cX8_start 25 = .ok (.iconst 1, 1) := by decide +kernel
theorem dX8_start_26 : decode cX8_start 26 = .ok (.iconst 0, 1) := by decide +kernel
theorem dX8_start_27 : decode cX8_start 27 = .ok (.iastore, 1) := by decide +kernel
theorem dX8_start_28 : decode cX8_start 28 = .ok (.aload_n 0, 1) := by decide +kernel
theorem dX8_start_29 : decode cX8_start 29 = .ok (.iconst 0, 1) := by decide +kernel
theorem dX8_start_30 : decode cX8_start 30 = .ok (.putfield 202, 3) := by decide +kernel
theorem dX8_start_33 : decode cX8_start 33 = .ok (.aload_n 0, 1) := by decide +kernel
theorem dX8_start_34 : decode cX8_start 34 = .ok (.aload_n 0, 1) := by decide +kernel
theorem dX8_start_35 : decode cX8_start 35 = .ok (.getfield 196, 3) := by decide +kernel
theorem dX8_start_38 : decode cX8_start 38 = .ok (.putfield 205, 3) := by decide +kernel
theorem dX8_start_41 : decode cX8_start 41 = .ok (.aload_n 0, 1) := by decide +kernel
theorem dX8_start_42 : decode cX8_start 42 = .ok (.iconst 0, 1) := by decide +kernel
theorem dX8_start_43 : decode cX8_start 43 = .ok (.putfield 208, 3) := by decide +kernel
theorem dX8_start_46 : decode cX8_start 46 = .ok (.return_, 1) := by decide +kernel
theorem dX8_goNow_0 : decode cX8_goNow 0 = .ok (.aload_n 0, 1) := by decide +kernel
theorem dX8_goNow_1 : decode cX8_goNow 1 = .ok (.invokevirtual 211, 3) := by decide +kernel
theorem dX8_goNow_4 : decode cX8_goNow 4 = .ok (.iconst 0, 1) := by decide +kernel
theorem dX8_goNow_5 : decode cX8_goNow 5 = .ok (.istore_n 1, 1) := by decide +kernel
theorem dX8_goNow_6 : decode cX8_goNow 6 = .ok (.iload_n 1, 1) := by decide +kernel
theorem dX8_goNow_7 : decode cX8_goNow 7 = .ok (.aload_n 0, 1) := by decide +kernel
theorem dX8_goNow_8 : decode cX8_goNow 8 = .ok (.getfield 9, 3) := by decide +kernel
theorem dX8_goNow_11 : decode cX8_goNow 11 = .ok (.iconst 3, 1) := by decide +kernel
theorem dX8_goNow_12 : decode cX8_goNow 12 = .ok (.iaload, 1) := by decide +kernel
theorem dX8_goNow_13 : decode cX8_goNow 13 = .ok (.if_icmp .ge 22, 3) := by decide +kernel
theorem dX8_goNow_16 : decode cX8_goNow 16 = .ok (.aload_n 0, 1) := by decide +kernel
theorem dX8_goNow_17 : decode cX8_goNow 17 = .ok (.aload_n 0, 1) := by decide +kernel
theorem dX8_goNow_18 : decode cX8_goNow 18 = .ok (.getfield 9, 3) := by decide +kernel
theorem dX8_goNow_21 : decode cX8_goNow 21 = .ok (.bipush 18, 2) := by decide +kernel
theorem dX8_goNow_23 : decode cX8_goNow 23 = .ok (.iload_n 1, 1) := by decide +kernel
theorem dX8_goNow_24 : decode cX8_goNow 24 = .ok (.iadd, 1) := by decide +kernel
theorem dX8_goNow_25 : decode cX8_goNow 25 = .ok (.iaload, 1) := by decide +kernel
theorem dX8_goNow_26 : decode cX8_goNow 26 = .ok (.invokevirtual 214, 3) := by decide +kernel
theorem dX8_goNow_29 : decode cX8_goNow 29 = .ok (.iinc 1 1, 3) := by decide +kernel
theorem dX8_goNow_32 : decode cX8_goNow 32 = .ok (.goto (-26), 3) := by decide +kernel
theorem dX8_goNow_35 : decode cX8_goNow 35 = .ok (.return_, 1) := by decide +kernel
theorem dX8_bits_0 : decode cX8_bits 0 = .ok (.iconst 0, 1) := by decide +kernel
theorem dX8_bits_1 : decode cX8_bits 1 = .ok (.istore_n 1, 1) := by decide +kernel
theorem dX8_bits_2 : decode cX8_bits 2 = .ok (.iconst 0, 1) := by decide +kernel
theorem dX8_bits_3 : decode cX8_bits 3 = .ok (.istore_n 2, 1) := by decide +kernel
theorem dX8_bits_4 : decode cX8_bits 4 = .ok (.iload_n 2, 1) := by decide +kernel
theorem dX8_bits_5 : decode cX8_bits 5 = .ok (.bipush 8, 2) := by decide +kernel
theorem dX8_bits_7 : decode cX8_bits 7 = .ok (.if_icmp .ge 17, 3) := by decide +kernel
theorem dX8_bits_10 : decode cX8_bits 10 = .ok (.iload_n 1, 1) := by decide +kernel
theorem dX8_bits_11 : decode cX8_bits 11 = .ok (.iload_n 0, 1) := by decide +kernel
theorem dX8_bits_12 : decode cX8_bits 12 = .ok (.iload_n 2, 1) := by decide +kernel
theorem dX8_bits_13 : decode cX8_bits 13 = .ok (.ishr, 1) := by decide +kernel
theorem dX8_bits_14 : decode cX8_bits 14 = .ok (.iconst 1, 1) := by decide +kernel
theorem dX8_bits_15 : decode cX8_bits 15 = .ok (.iand, 1) := by decide +kernel
theorem dX8_bits_16 : decode cX8_bits 16 = .ok (.iadd, 1) := by decide +kernel
theorem dX8_bits_17 : decode cX8_bits 17 = .ok (.istore_n 1, 1) := by decide +kernel
theorem dX8_bits_18 : decode cX8_bits 18 = .ok (.iinc 2 1, 3) := by decide +kernel
theorem dX8_bits_21 : decode cX8_bits 21 = .ok (.goto (-17), 3) := by decide +kernel
theorem dX8_bits_24 : decode cX8_bits 24 = .ok (.iload_n 1, 1) := by decide +kernel
theorem dX8_bits_25 : decode cX8_bits 25 = .ok (.ireturn, 1) := by decide +kernel
theorem dX8_leaderOf_0 : decode cX8_leaderOf 0 = .ok (.iload_n 1, 1) := by decide +kernel
theorem dX8_leaderOf_1 : decode cX8_leaderOf 1 = .ok (.aload_n 0, 1) := by decide +kernel
theorem dX8_leaderOf_2 : decode cX8_leaderOf 2 = .ok (.invokevirtual 190, 3) := by decide +kernel
theorem dX8_leaderOf_5 : decode cX8_leaderOf 5 = .ok (.if_icmp .ge 10, 3) := by decide +kernel
theorem dX8_leaderOf_8 : decode cX8_leaderOf 8 = .ok (.aload_n 0, 1) := by decide +kernel
theorem dX8_leaderOf_9 : decode cX8_leaderOf 9 = .ok (.getfield 193, 3) := by decide +kernel
theorem dX8_leaderOf_12 : decode cX8_leaderOf 12 = .ok (.ifCond .ne 8, 3) := by decide +kernel
theorem dX8_leaderOf_15 : decode cX8_leaderOf 15 = .ok (.aload_n 0, 1) := by decide +kernel
theorem dX8_leaderOf_16 : decode cX8_leaderOf 16 = .ok (.getfield 196, 3) := by decide +kernel
theorem dX8_leaderOf_19 : decode cX8_leaderOf 19 = .ok (.ireturn, 1) := by decide +kernel
theorem dX8_leaderOf_20 : decode cX8_leaderOf 20 = .ok (.aload_n 0, 1) := by decide +kernel
theorem dX8_leaderOf_21 : decode cX8_leaderOf 21 = .ok (.getfield 193, 3) := by decide +kernel
theorem dX8_leaderOf_24 : decode cX8_leaderOf 24 = .ok (.iconst 1, 1) := by decide +kernel
theorem dX8_leaderOf_25 : decode cX8_leaderOf 25 = .ok (.if_icmp .ne 23, 3) := by decide +kernel
theorem dX8_leaderOf_28 : decode cX8_leaderOf 28 = .ok (.iload_n 1, 1) := by decide +kernel
theorem dX8_leaderOf_29 : decode cX8_leaderOf 29 = .ok (.iconst 2, 1) := by decide +kernel
theorem dX8_leaderOf_30 : decode cX8_leaderOf 30 = .ok (.irem, 1) := by decide +kernel
theorem dX8_leaderOf_31 : decode cX8_leaderOf 31 = .ok (.ifCond .ne 10, 3) := by decide +kernel
theorem dX8_leaderOf_34 : decode cX8_leaderOf 34 = .ok (.aload_n 0, 1) := by decide +kernel
theorem dX8_leaderOf_35 : decode cX8_leaderOf 35 = .ok (.getfield 196, 3) := by decide +kernel
theorem dX8_leaderOf_38 : decode cX8_leaderOf 38 = .ok (.goto 9, 3) := by decide +kernel
theorem dX8_leaderOf_41 : decode cX8_leaderOf 41 = .ok (.iconst 1, 1) := by decide +kernel
theorem dX8_leaderOf_42 : decode cX8_leaderOf 42 = .ok (.aload_n 0, 1) := by decide +kernel
theorem dX8_leaderOf_43 : decode cX8_leaderOf 43 = .ok (.getfield 196, 3) := by decide +kernel
theorem dX8_leaderOf_46 : decode cX8_leaderOf 46 = .ok (.isub, 1) := by decide +kernel
theorem dX8_leaderOf_47 : decode cX8_leaderOf 47 = .ok (.ireturn, 1) := by decide +kernel
theorem dX8_leaderOf_48 : decode cX8_leaderOf 48 = .ok (.aload_n 0, 1) := by decide +kernel
theorem dX8_leaderOf_49 : decode cX8_leaderOf 49 = .ok (.getfield 193, 3) := by decide +kernel
theorem dX8_leaderOf_52 : decode cX8_leaderOf 52 = .ok (.iconst 2, 1) := by decide +kernel
theorem dX8_leaderOf_53 : decode cX8_leaderOf 53 = .ok (.if_icmp .ne 26, 3) := by decide +kernel
theorem dX8_leaderOf_56 : decode cX8_leaderOf 56 = .ok (.iload_n 1, 1) := by decide +kernel
theorem dX8_leaderOf_57 : decode cX8_leaderOf 57 = .ok (.invokestatic 217, 3) := by decide +kernel
theorem dX8_leaderOf_60 : decode cX8_leaderOf 60 = .ok (.iconst 2, 1) := by decide +kernel
theorem dX8_leaderOf_61 : decode cX8_leaderOf 61 = .ok (.irem, 1) := by decide +kernel
theorem dX8_leaderOf_62 : decode cX8_leaderOf 62 = .ok (.ifCond .ne 10, 3) := by decide +kernel
theorem dX8_leaderOf_65 : decode cX8_leaderOf 65 = .ok (.aload_n 0, 1) := by decide +kernel
theorem dX8_leaderOf_66 : decode cX8_leaderOf 66 = .ok (.getfield 196, 3) := by decide +kernel
theorem dX8_leaderOf_69 : decode cX8_leaderOf 69 = .ok (.goto 9, 3) := by decide +kernel
theorem dX8_leaderOf_72 : decode cX8_leaderOf 72 = .ok (.iconst 1, 1) := by decide +kernel
theorem dX8_leaderOf_73 : decode cX8_leaderOf 73 = .ok (.aload_n 0, 1) := by decide +kernel
theorem dX8_leaderOf_74 : decode cX8_leaderOf 74 = .ok (.getfield 196, 3) := by decide +kernel
theorem dX8_leaderOf_77 : decode cX8_leaderOf 77 = .ok (.isub, 1) := by decide +kernel
theorem dX8_leaderOf_78 : decode cX8_leaderOf 78 = .ok (.ireturn, 1) := by decide +kernel
theorem dX8_leaderOf_79 : decode cX8_leaderOf 79 = .ok (.aload_n 0, 1) := by decide +kernel
theorem dX8_leaderOf_80 : decode cX8_leaderOf 80 = .ok (.getfield 38, 3) := by decide +kernel
theorem dX8_leaderOf_83 : decode cX8_leaderOf 83 = .ok (.iconst 0, 1) := by decide +kernel
theorem dX8_leaderOf_84 : decode cX8_leaderOf 84 = .ok (.iaload, 1) := by decide +kernel
theorem dX8_leaderOf_85 : decode cX8_leaderOf 85 = .ok (.aload_n 0, 1) := by decide +kernel
theorem dX8_leaderOf_86 : decode cX8_leaderOf 86 = .ok (.getfield 38, 3) := by decide +kernel
theorem dX8_leaderOf_89 : decode cX8_leaderOf 89 = .ok (.iconst 1, 1) := by decide +kernel
theorem dX8_leaderOf_90 : decode cX8_leaderOf 90 = .ok (.iaload, 1) := by decide +kernel
theorem dX8_leaderOf_91 : decode cX8_leaderOf 91 = .ok (.if_icmp .eq 24, 3) := by decide +kernel
theorem dX8_leaderOf_94 : decode cX8_leaderOf 94 = .ok (.aload_n 0, 1) := by decide +kernel
theorem dX8_leaderOf_95 : decode cX8_leaderOf 95 = .ok (.getfield 38, 3) := by decide +kernel
theorem dX8_leaderOf_98 : decode cX8_leaderOf 98 = .ok (.iconst 0, 1) := by decide +kernel
theorem dX8_leaderOf_99 : decode cX8_leaderOf 99 = .ok (.iaload, 1) := by decide +kernel
theorem dX8_leaderOf_100 : decode cX8_leaderOf 100 = .ok (.aload_n 0, 1) := by decide +kernel
theorem dX8_leaderOf_101 : decode cX8_leaderOf 101 = .ok (.getfield 38, 3) := by decide +kernel
theorem dX8_leaderOf_104 : decode cX8_leaderOf 104 = .ok (.iconst 1, 1) := by decide +kernel
theorem dX8_leaderOf_105 : decode cX8_leaderOf 105 = .ok (.iaload, 1) := by decide +kernel
theorem dX8_leaderOf_106 : decode cX8_leaderOf 106 = .ok (.if_icmp .ge 7, 3) := by decide +kernel
theorem dX8_leaderOf_109 : decode cX8_leaderOf 109 = .ok (.iconst 0, 1) := by decide +kernel
theorem dX8_leaderOf_110 : decode cX8_leaderOf 110 = .ok (.goto 4, 3) := by decide +kernel
theorem dX8_leaderOf_113 : decode cX8_leaderOf 113 = .ok (.iconst 1, 1) := by decide +kernel
theorem dX8_leaderOf_114 : decode cX8_leaderOf 114 = .ok (.ireturn, 1) := by decide +kernel
theorem dX8_leaderOf_115 : decode cX8_leaderOf 115 = .ok (.iload_n 1, 1) := by decide +kernel
theorem dX8_leaderOf_116 : decode cX8_leaderOf 116 = .ok (.ifCond .ne 10, 3) := by decide +kernel
theorem dX8_leaderOf_119 : decode cX8_leaderOf 119 = .ok (.aload_n 0, 1) := by decide +kernel
theorem dX8_leaderOf_120 : decode cX8_leaderOf 120 = .ok (.getfield 196, 3) := by decide +kernel
theorem dX8_leaderOf_123 : decode cX8_leaderOf 123 = .ok (.goto 9, 3) := by decide +kernel
theorem dX8_leaderOf_126 : decode cX8_leaderOf 126 = .ok (.iconst 1, 1) := by decide +kernel
theorem dX8_leaderOf_127 : decode cX8_leaderOf 127 = .ok (.aload_n 0, 1) := by decide +kernel
theorem dX8_leaderOf_128 : decode cX8_leaderOf 128 = .ok (.getfield 205, 3) := by decide +kernel
theorem dX8_leaderOf_131 : decode cX8_leaderOf 131 = .ok (.isub, 1) := by decide +kernel
theorem dX8_leaderOf_132 : decode cX8_leaderOf 132 = .ok (.ireturn, 1) := by decide +kernel
theorem dX8_turnNow_0 : decode cX8_turnNow 0 = .ok (.aload_n 0, 1) := by decide +kernel
theorem dX8_turnNow_1 : decode cX8_turnNow 1 = .ok (.getfield 202, 3) := by decide +kernel
theorem dX8_turnNow_4 : decode cX8_turnNow 4 = .ok (.iconst 2, 1) := by decide +kernel
theorem dX8_turnNow_5 : decode cX8_turnNow 5 = .ok (.irem, 1) := by decide +kernel
theorem dX8_turnNow_6 : decode cX8_turnNow 6 = .ok (.ifCond .ne 10, 3) := by decide +kernel
theorem dX8_turnNow_9 : decode cX8_turnNow 9 = .ok (.aload_n 0, 1) := by decide +kernel
theorem dX8_turnNow_10 : decode cX8_turnNow 10 = .ok (.getfield 205, 3) := by decide +kernel
theorem dX8_turnNow_13 : decode cX8_turnNow 13 = .ok (.goto 9, 3) := by decide +kernel
theorem dX8_turnNow_16 : decode cX8_turnNow 16 = .ok (.iconst 1, 1) := by decide +kernel
theorem dX8_turnNow_17 : decode cX8_turnNow 17 = .ok (.aload_n 0, 1) := by decide +kernel
theorem dX8_turnNow_18 : decode cX8_turnNow 18 = .ok (.getfield 205, 3) := by decide +kernel
theorem dX8_turnNow_21 : decode cX8_turnNow 21 = .ok (.isub, 1) := by decide +kernel
theorem dX8_turnNow_22 : decode cX8_turnNow 22 = .ok (.ireturn, 1) := by decide +kernel
theorem dX8_shooterNow_0 : decode cX8_shooterNow 0 = .ok (.aload_n 0, 1) := by decide +kernel
theorem dX8_shooterNow_1 : decode cX8_shooterNow 1 = .ok (.getfield 202, 3) := by decide +kernel
theorem dX8_shooterNow_4 : decode cX8_shooterNow 4 = .ok (.iconst 2, 1) := by decide +kernel
theorem dX8_shooterNow_5 : decode cX8_shooterNow 5 = .ok (.idiv, 1) := by decide +kernel
theorem dX8_shooterNow_6 : decode cX8_shooterNow 6 = .ok (.aload_n 0, 1) := by decide +kernel
theorem dX8_shooterNow_7 : decode cX8_shooterNow 7 = .ok (.invokevirtual 190, 3) := by decide +kernel
theorem dX8_shooterNow_10 : decode cX8_shooterNow 10 = .ok (.irem, 1) := by decide +kernel
theorem dX8_shooterNow_11 : decode cX8_shooterNow 11 = .ok (.ireturn, 1) := by decide +kernel
theorem dX8_held_0 : decode cX8_held 0 = .ok (.iload_n 0, 1) := by decide +kernel
theorem dX8_held_1 : decode cX8_held 1 = .ok (.ifCond .ge 7, 3) := by decide +kernel
theorem dX8_held_4 : decode cX8_held 4 = .ok (.iconst 0, 1) := by decide +kernel
theorem dX8_held_5 : decode cX8_held 5 = .ok (.goto 15, 3) := by decide +kernel
theorem dX8_held_8 : decode cX8_held 8 = .ok (.iload_n 0, 1) := by decide +kernel
theorem dX8_held_9 : decode cX8_held 9 = .ok (.bipush 6, 2) := by decide +kernel
theorem dX8_held_11 : decode cX8_held 11 = .ok (.if_icmp .le 8, 3) := by decide +kernel
theorem dX8_held_14 : decode cX8_held 14 = .ok (.bipush 6, 2) := by decide +kernel
theorem dX8_held_16 : decode cX8_held 16 = .ok (.goto 4, 3) := by decide +kernel
theorem dX8_held_19 : decode cX8_held 19 = .ok (.iload_n 0, 1) := by decide +kernel
theorem dX8_held_20 : decode cX8_held 20 = .ok (.ireturn, 1) := by decide +kernel
theorem dX8_chanceOf_0 : decode cX8_chanceOf 0 = .ok (.aload_n 0, 1) := by decide +kernel
theorem dX8_chanceOf_1 : decode cX8_chanceOf 1 = .ok (.getfield 35, 3) := by decide +kernel
theorem dX8_chanceOf_4 : decode cX8_chanceOf 4 = .ok (.iconst 5, 1) := by decide +kernel
theorem dX8_chanceOf_5 : decode cX8_chanceOf 5 = .ok (.iload_n 1, 1) := by decide +kernel
theorem dX8_chanceOf_6 : decode cX8_chanceOf 6 = .ok (.imul, 1) := by decide +kernel
theorem dX8_chanceOf_7 : decode cX8_chanceOf 7 = .ok (.iload_n 2, 1) := by decide +kernel
theorem dX8_chanceOf_8 : decode cX8_chanceOf 8 = .ok (.iadd, 1) := by decide +kernel
theorem dX8_chanceOf_9 : decode cX8_chanceOf 9 = .ok (.iaload, 1) := by decide +kernel
theorem dX8_chanceOf_10 : decode cX8_chanceOf 10 = .ok (.istore 4, 2) := by decide +kernel
theorem dX8_chanceOf_12 : decode cX8_chanceOf 12 = .ok (.iload_n 3, 1) := by decide +kernel
theorem dX8_chanceOf_13 : decode cX8_chanceOf 13 = .ok (.ifCond .ge 17, 3) := by decide +kernel
theorem dX8_chanceOf_16 : decode cX8_chanceOf 16 = .ok (.iload 4, 2) := by decide +kernel
theorem dX8_chanceOf_18 : decode cX8_chanceOf 18 = .ok (.aload_n 0, 1) := by decide +kernel
theorem dX8_chanceOf_19 : decode cX8_chanceOf 19 = .ok (.getfield 9, 3) := by decide +kernel
theorem dX8_chanceOf_22 : decode cX8_chanceOf 22 = .ok (.iconst 4, 1) := by decide +kernel
theorem dX8_chanceOf_23 : decode cX8_chanceOf 23 = .ok (.iload_n 1, 1) := by decide +kernel
theorem dX8_chanceOf_24 : decode cX8_chanceOf 24 = .ok (.iadd, 1) := by decide +kernel
theorem dX8_chanceOf_25 : decode cX8_chanceOf 25 = .ok (.iaload, 1) := by decide +kernel
theorem dX8_chanceOf_26 : decode cX8_chanceOf 26 = .ok (.iadd, 1) := by decide +kernel
theorem dX8_chanceOf_27 : decode cX8_chanceOf 27 = .ok (.goto 24, 3) := by decide +kernel
theorem dX8_chanceOf_30 : decode cX8_chanceOf 30 = .ok (.iload_n 3, 1) := by decide +kernel
theorem dX8_chanceOf_31 : decode cX8_chanceOf 31 = .ok (.ifCond .le 18, 3) := by decide +kernel
theorem dX8_chanceOf_34 : decode cX8_chanceOf 34 = .ok (.iload 4, 2) := by decide +kernel
theorem dX8_chanceOf_36 : decode cX8_chanceOf 36 = .ok (.aload_n 0, 1) := by decide +kernel
theorem dX8_chanceOf_37 : decode cX8_chanceOf 37 = .ok (.getfield 9, 3) := by decide +kernel
theorem dX8_chanceOf_40 : decode cX8_chanceOf 40 = .ok (.bipush 6, 2) := by decide +kernel
theorem dX8_chanceOf_42 : decode cX8_chanceOf 42 = .ok (.iload_n 1, 1) := by decide +kernel
theorem dX8_chanceOf_43 : decode cX8_chanceOf 43 = .ok (.iadd, 1) := by decide +kernel
theorem dX8_chanceOf_44 : decode cX8_chanceOf 44 = .ok (.iaload, 1) := by decide +kernel
theorem dX8_chanceOf_45 : decode cX8_chanceOf 45 = .ok (.iadd, 1) := by decide +kernel
theorem dX8_chanceOf_46 : decode cX8_chanceOf 46 = .ok (.goto 5, 3) := by decide +kernel
theorem dX8_chanceOf_49 : decode cX8_chanceOf 49 = .ok (.iload 4, 2) := by decide +kernel
theorem dX8_chanceOf_51 : decode cX8_chanceOf 51 = .ok (.invokestatic 220, 3) := by decide +kernel
theorem dX8_chanceOf_54 : decode cX8_chanceOf 54 = .ok (.ireturn, 1) := by decide +kernel
theorem dX8_chanceNow_0 : decode cX8_chanceNow 0 = .ok (.aload_n 0, 1) := by decide +kernel
theorem dX8_chanceNow_1 : decode cX8_chanceNow 1 = .ok (.invokevirtual 223, 3) := by decide +kernel
theorem dX8_chanceNow_4 : decode cX8_chanceNow 4 = .ok (.istore_n 1, 1) := by decide +kernel
theorem dX8_chanceNow_5 : decode cX8_chanceNow 5 = .ok (.aload_n 0, 1) := by decide +kernel
theorem dX8_chanceNow_6 : decode cX8_chanceNow 6 = .ok (.iload_n 1, 1) := by decide +kernel
theorem dX8_chanceNow_7 : decode cX8_chanceNow 7 = .ok (.aload_n 0, 1) := by decide +kernel
theorem dX8_chanceNow_8 : decode cX8_chanceNow 8 = .ok (.invokevirtual 226, 3) := by decide +kernel
theorem dX8_chanceNow_11 : decode cX8_chanceNow 11 = .ok (.aload_n 0, 1) := by decide +kernel
theorem dX8_chanceNow_12 : decode cX8_chanceNow 12 = .ok (.getfield 38, 3) := by decide +kernel
theorem dX8_chanceNow_15 : decode cX8_chanceNow 15 = .ok (.iload_n 1, 1) := by decide +kernel
theorem dX8_chanceNow_16 : decode cX8_chanceNow 16 = .ok (.iaload, 1) := by decide +kernel
theorem dX8_chanceNow_17 : decode cX8_chanceNow 17 = .ok (.aload_n 0, 1) := by decide +kernel
theorem dX8_chanceNow_18 : decode cX8_chanceNow 18 = .ok (.getfield 38, 3) := by decide +kernel
theorem dX8_chanceNow_21 : decode cX8_chanceNow 21 = .ok (.iconst 1, 1) := by decide +kernel
theorem dX8_chanceNow_22 : decode cX8_chanceNow 22 = .ok (.iload_n 1, 1) := by decide +kernel
theorem dX8_chanceNow_23 : decode cX8_chanceNow 23 = .ok (.isub, 1) := by decide +kernel
theorem dX8_chanceNow_24 : decode cX8_chanceNow 24 = .ok (.iaload, 1) := by decide +kernel
theorem dX8_chanceNow_25 : decode cX8_chanceNow 25 = .ok (.isub, 1) := by decide +kernel
theorem dX8_chanceNow_26 : decode cX8_chanceNow 26 = .ok (.invokevirtual 229, 3) := by decide +kernel
theorem dX8_chanceNow_29 : decode cX8_chanceNow 29 = .ok (.ireturn, 1) := by decide +kernel
theorem dX8_isCaught_0 : decode cX8_isCaught 0 = .ok (.aload_n 0, 1) := by decide +kernel
theorem dX8_isCaught_1 : decode cX8_isCaught 1 = .ok (.getfield 38, 3) := by decide +kernel
theorem dX8_isCaught_4 : decode cX8_isCaught 4 = .ok (.iload_n 1, 1) := by decide +kernel
theorem dX8_isCaught_5 : decode cX8_isCaught 5 = .ok (.iaload, 1) := by decide +kernel
theorem dX8_isCaught_6 : decode cX8_isCaught 6 = .ok (.aload_n 0, 1) := by decide +kernel
theorem dX8_isCaught_7 : decode cX8_isCaught 7 = .ok (.getfield 38, 3) := by decide +kernel
theorem dX8_isCaught_10 : decode cX8_isCaught 10 = .ok (.iconst 1, 1) := by decide +kernel
theorem dX8_isCaught_11 : decode cX8_isCaught 11 = .ok (.iload_n 1, 1) := by decide +kernel
theorem dX8_isCaught_12 : decode cX8_isCaught 12 = .ok (.isub, 1) := by decide +kernel
theorem dX8_isCaught_13 : decode cX8_isCaught 13 = .ok (.iaload, 1) := by decide +kernel
theorem dX8_isCaught_14 : decode cX8_isCaught 14 = .ok (.isub, 1) := by decide +kernel
theorem dX8_isCaught_15 : decode cX8_isCaught 15 = .ok (.aload_n 0, 1) := by decide +kernel
theorem dX8_isCaught_16 : decode cX8_isCaught 16 = .ok (.invokevirtual 190, 3) := by decide +kernel
theorem dX8_isCaught_19 : decode cX8_isCaught 19 = .ok (.aload_n 0, 1) := by decide +kernel
theorem dX8_isCaught_20 : decode cX8_isCaught 20 = .ok (.getfield 41, 3) := by decide +kernel
theorem dX8_isCaught_23 : decode cX8_isCaught 23 = .ok (.iconst 1, 1) := by decide +kernel
theorem dX8_isCaught_24 : decode cX8_isCaught 24 = .ok (.iload_n 1, 1) := by decide +kernel
theorem dX8_isCaught_25 : decode cX8_isCaught 25 = .ok (.isub, 1) := by decide +kernel
theorem dX8_isCaught_26 : decode cX8_isCaught 26 = .ok (.iaload, 1) := by decide +kernel
theorem dX8_isCaught_27 : decode cX8_isCaught 27 = .ok (.isub, 1) := by decide +kernel
theorem dX8_isCaught_28 : decode cX8_isCaught 28 = .ok (.if_icmp .le 7, 3) := by decide +kernel
theorem dX8_isCaught_31 : decode cX8_isCaught 31 = .ok (.iconst 1, 1) := by decide +kernel
theorem dX8_isCaught_32 : decode cX8_isCaught 32 = .ok (.goto 4, 3) := by decide +kernel
theorem dX8_isCaught_35 : decode cX8_isCaught 35 = .ok (.iconst 0, 1) := by decide +kernel
theorem dX8_isCaught_36 : decode cX8_isCaught 36 = .ok (.ireturn, 1) := by decide +kernel
theorem dX8_go_0 : decode cX8_go 0 = .ok (.aload_n 0, 1) := by decide +kernel
theorem dX8_go_1 : decode cX8_go 1 = .ok (.invokevirtual 223, 3) := by decide +kernel
theorem dX8_go_4 : decode cX8_go 4 = .ok (.istore_n 2, 1) := by decide +kernel
theorem dX8_go_5 : decode cX8_go 5 = .ok (.aload_n 0, 1) := by decide +kernel
theorem dX8_go_6 : decode cX8_go 6 = .ok (.getfield 38, 3) := by decide +kernel
theorem dX8_go_9 : decode cX8_go 9 = .ok (.iload_n 2, 1) := by decide +kernel
theorem dX8_go_10 : decode cX8_go 10 = .ok (.dup2, 1) := by decide +kernel
theorem dX8_go_11 : decode cX8_go 11 = .ok (.iaload, 1) := by decide +kernel
theorem dX8_go_12 : decode cX8_go 12 = .ok (.iload_n 1, 1) := by decide +kernel
theorem dX8_go_13 : decode cX8_go 13 = .ok (.iadd, 1) := by decide +kernel
theorem dX8_go_14 : decode cX8_go 14 = .ok (.iastore, 1) := by decide +kernel
theorem dX8_go_15 : decode cX8_go 15 = .ok (.aload_n 0, 1) := by decide +kernel
theorem dX8_go_16 : decode cX8_go 16 = .ok (.getfield 41, 3) := by decide +kernel
theorem dX8_go_19 : decode cX8_go 19 = .ok (.iload_n 2, 1) := by decide +kernel
theorem dX8_go_20 : decode cX8_go 20 = .ok (.dup2, 1) := by decide +kernel
theorem dX8_go_21 : decode cX8_go 21 = .ok (.iaload, 1) := by decide +kernel
theorem dX8_go_22 : decode cX8_go 22 = .ok (.iconst 1, 1) := by decide +kernel
theorem dX8_go_23 : decode cX8_go 23 = .ok (.iadd, 1) := by decide +kernel
theorem dX8_go_24 : decode cX8_go 24 = .ok (.iastore, 1) := by decide +kernel
theorem dX8_go_25 : decode cX8_go 25 = .ok (.aload_n 0, 1) := by decide +kernel
theorem dX8_go_26 : decode cX8_go 26 = .ok (.dup, 1) := by decide +kernel
theorem dX8_go_27 : decode cX8_go 27 = .ok (.getfield 202, 3) := by decide +kernel
theorem dX8_go_30 : decode cX8_go 30 = .ok (.iconst 1, 1) := by decide +kernel
theorem dX8_go_31 : decode cX8_go 31 = .ok (.iadd, 1) := by decide +kernel
theorem dX8_go_32 : decode cX8_go 32 = .ok (.putfield 202, 3) := by decide +kernel
theorem dX8_go_35 : decode cX8_go 35 = .ok (.aload_n 0, 1) := by decide +kernel
theorem dX8_go_36 : decode cX8_go 36 = .ok (.aload_n 0, 1) := by decide +kernel
theorem dX8_go_37 : decode cX8_go 37 = .ok (.getfield 202, 3) := by decide +kernel
theorem dX8_go_40 : decode cX8_go 40 = .ok (.iconst 2, 1) := by decide +kernel
theorem dX8_go_41 : decode cX8_go 41 = .ok (.aload_n 0, 1) := by decide +kernel
theorem dX8_go_42 : decode cX8_go 42 = .ok (.invokevirtual 190, 3) := by decide +kernel
theorem dX8_go_45 : decode cX8_go 45 = .ok (.imul, 1) := by decide +kernel
theorem dX8_go_46 : decode cX8_go 46 = .ok (.if_icmp .gt 27, 3) := by decide +kernel
theorem dX8_go_49 : decode cX8_go 49 = .ok (.aload_n 0, 1) := by decide +kernel
theorem dX8_go_50 : decode cX8_go 50 = .ok (.iconst 0, 1) := by decide +kernel
theorem dX8_go_51 : decode cX8_go 51 = .ok (.invokevirtual 233, 3) := by decide +kernel
theorem dX8_go_54 : decode cX8_go 54 = .ok (.ifCond .ne 11, 3) := by decide +kernel
theorem dX8_go_57 : decode cX8_go 57 = .ok (.aload_n 0, 1) := by decide +kernel
theorem dX8_go_58 : decode cX8_go 58 = .ok (.iconst 1, 1) := by decide +kernel
theorem dX8_go_59 : decode cX8_go 59 = .ok (.invokevirtual 233, 3) := by decide +kernel
theorem dX8_go_62 : decode cX8_go 62 = .ok (.ifCond .eq 7, 3) := by decide +kernel
theorem dX8_go_65 : decode cX8_go 65 = .ok (.iconst 1, 1) := by decide +kernel
theorem dX8_go_66 : decode cX8_go 66 = .ok (.goto 36, 3) := by decide +kernel
theorem dX8_go_69 : decode cX8_go 69 = .ok (.iconst 0, 1) := by decide +kernel
theorem dX8_go_70 : decode cX8_go 70 = .ok (.goto 32, 3) := by decide +kernel
theorem dX8_go_73 : decode cX8_go 73 = .ok (.aload_n 0, 1) := by decide +kernel
theorem dX8_go_74 : decode cX8_go 74 = .ok (.getfield 202, 3) := by decide +kernel
theorem dX8_go_77 : decode cX8_go 77 = .ok (.iconst 2, 1) := by decide +kernel
theorem dX8_go_78 : decode cX8_go 78 = .ok (.irem, 1) := by decide +kernel
theorem dX8_go_79 : decode cX8_go 79 = .ok (.ifCond .ne 22, 3) := by decide +kernel
theorem dX8_go_82 : decode cX8_go 82 = .ok (.aload_n 0, 1) := by decide +kernel
theorem dX8_go_83 : decode cX8_go 83 = .ok (.getfield 38, 3) := by decide +kernel
theorem dX8_go_86 : decode cX8_go 86 = .ok (.iconst 0, 1) := by decide +kernel
theorem dX8_go_87 : decode cX8_go 87 = .ok (.iaload, 1) := by decide +kernel
theorem dX8_go_88 : decode cX8_go 88 = .ok (.aload_n 0, 1) := by decide +kernel
theorem dX8_go_89 : decode cX8_go 89 = .ok (.getfield 38, 3) := by decide +kernel
theorem dX8_go_92 : decode cX8_go 92 = .ok (.iconst 1, 1) := by decide +kernel
theorem dX8_go_93 : decode cX8_go 93 = .ok (.iaload, 1) := by decide +kernel
theorem dX8_go_94 : decode cX8_go 94 = .ok (.if_icmp .eq 7, 3) := by decide +kernel
theorem dX8_go_97 : decode cX8_go 97 = .ok (.iconst 1, 1) := by decide +kernel
theorem dX8_go_98 : decode cX8_go 98 = .ok (.goto 4, 3) := by decide +kernel
theorem dX8_go_101 : decode cX8_go 101 = .ok (.iconst 0, 1) := by decide +kernel
theorem dX8_go_102 : decode cX8_go 102 = .ok (.putfield 208, 3) := by decide +kernel
theorem dX8_go_105 : decode cX8_go 105 = .ok (.aload_n 0, 1) := by decide +kernel
theorem dX8_go_106 : decode cX8_go 106 = .ok (.aload_n 0, 1) := by decide +kernel
theorem dX8_go_107 : decode cX8_go 107 = .ok (.getfield 202, 3) := by decide +kernel
theorem dX8_go_110 : decode cX8_go 110 = .ok (.iconst 2, 1) := by decide +kernel
theorem dX8_go_111 : decode cX8_go 111 = .ok (.irem, 1) := by decide +kernel
theorem dX8_go_112 : decode cX8_go 112 = .ok (.ifCond .ne 16, 3) := by decide +kernel
theorem dX8_go_115 : decode cX8_go 115 = .ok (.aload_n 0, 1) := by decide +kernel
theorem dX8_go_116 : decode cX8_go 116 = .ok (.aload_n 0, 1) := by decide +kernel
theorem dX8_go_117 : decode cX8_go 117 = .ok (.getfield 202, 3) := by decide +kernel
theorem dX8_go_120 : decode cX8_go 120 = .ok (.iconst 2, 1) := by decide +kernel
theorem dX8_go_121 : decode cX8_go 121 = .ok (.idiv, 1) := by decide +kernel
theorem dX8_go_122 : decode cX8_go 122 = .ok (.invokevirtual 236, 3) := by decide +kernel
theorem dX8_go_125 : decode cX8_go 125 = .ok (.goto 7, 3) := by decide +kernel
theorem dX8_go_128 : decode cX8_go 128 = .ok (.aload_n 0, 1) := by decide +kernel
theorem dX8_go_129 : decode cX8_go 129 = .ok (.getfield 205, 3) := by decide +kernel
theorem dX8_go_132 : decode cX8_go 132 = .ok (.putfield 205, 3) := by decide +kernel
theorem dX8_go_135 : decode cX8_go 135 = .ok (.return_, 1) := by decide +kernel
theorem dX8_ahead_0 : decode cX8_ahead 0 = .ok (.aload_n 0, 1) := by decide +kernel
theorem dX8_ahead_1 : decode cX8_ahead 1 = .ok (.getfield 38, 3) := by decide +kernel
theorem dX8_ahead_4 : decode cX8_ahead 4 = .ok (.iconst 0, 1) := by decide +kernel
theorem dX8_ahead_5 : decode cX8_ahead 5 = .ok (.iaload, 1) := by decide +kernel
theorem dX8_ahead_6 : decode cX8_ahead 6 = .ok (.aload_n 0, 1) := by decide +kernel
theorem dX8_ahead_7 : decode cX8_ahead 7 = .ok (.getfield 38, 3) := by decide +kernel
theorem dX8_ahead_10 : decode cX8_ahead 10 = .ok (.iconst 1, 1) := by decide +kernel
theorem dX8_ahead_11 : decode cX8_ahead 11 = .ok (.iaload, 1) := by decide +kernel
theorem dX8_ahead_12 : decode cX8_ahead 12 = .ok (.if_icmp .le 7, 3) := by decide +kernel
theorem dX8_ahead_15 : decode cX8_ahead 15 = .ok (.iconst 0, 1) := by decide +kernel
theorem dX8_ahead_16 : decode cX8_ahead 16 = .ok (.goto 23, 3) := by decide +kernel
theorem dX8_ahead_19 : decode cX8_ahead 19 = .ok (.aload_n 0, 1) := by decide +kernel
theorem dX8_ahead_20 : decode cX8_ahead 20 = .ok (.getfield 38, 3) := by decide +kernel
theorem dX8_ahead_23 : decode cX8_ahead 23 = .ok (.iconst 1, 1) := by decide +kernel
theorem dX8_ahead_24 : decode cX8_ahead 24 = .ok (.iaload, 1) := by decide +kernel
theorem dX8_ahead_25 : decode cX8_ahead 25 = .ok (.aload_n 0, 1) := by decide +kernel
theorem dX8_ahead_26 : decode cX8_ahead 26 = .ok (.getfield 38, 3) := by decide +kernel
theorem dX8_ahead_29 : decode cX8_ahead 29 = .ok (.iconst 0, 1) := by decide +kernel
theorem dX8_ahead_30 : decode cX8_ahead 30 = .ok (.iaload, 1) := by decide +kernel
theorem dX8_ahead_31 : decode cX8_ahead 31 = .ok (.if_icmp .le 7, 3) := by decide +kernel
theorem dX8_ahead_34 : decode cX8_ahead 34 = .ok (.iconst 1, 1) := by decide +kernel
theorem dX8_ahead_35 : decode cX8_ahead 35 = .ok (.goto 4, 3) := by decide +kernel
theorem dX8_ahead_38 : decode cX8_ahead 38 = .ok (.iconst (-1), 1) := by decide +kernel
theorem dX8_ahead_39 : decode cX8_ahead 39 = .ok (.ireturn, 1) := by decide +kernel
theorem dX8_roundWays_0 : decode cX8_roundWays 0 = .ok (.aload_n 0, 1) := by decide +kernel
theorem dX8_roundWays_1 : decode cX8_roundWays 1 = .ok (.aload_n 0, 1) := by decide +kernel
theorem dX8_roundWays_2 : decode cX8_roundWays 2 = .ok (.getfield 196, 3) := by decide +kernel
theorem dX8_roundWays_5 : decode cX8_roundWays 5 = .ok (.iload_n 1, 1) := by decide +kernel
theorem dX8_roundWays_6 : decode cX8_roundWays 6 = .ok (.iconst 0, 1) := by decide +kernel
theorem dX8_roundWays_7 : decode cX8_roundWays 7 = .ok (.invokevirtual 229, 3) := by decide +kernel
theorem dX8_roundWays_10 : decode cX8_roundWays 10 = .ok (.istore_n 3, 1) := by decide +kernel
theorem dX8_roundWays_11 : decode cX8_roundWays 11 = .ok (.aload_n 0, 1) := by decide +kernel
theorem dX8_roundWays_12 : decode cX8_roundWays 12 = .ok (.iconst 1, 1) := by decide +kernel
theorem dX8_roundWays_13 : decode cX8_roundWays 13 = .ok (.aload_n 0, 1) := by decide +kernel
theorem dX8_roundWays_14 : decode cX8_roundWays 14 = .ok (.getfield 196, 3) := by decide +kernel
theorem dX8_roundWays_17 : decode cX8_roundWays 17 = .ok (.isub, 1) := by decide +kernel
theorem dX8_roundWays_18 : decode cX8_roundWays 18 = .ok (.iload_n 1, 1) := by decide +kernel
theorem dX8_roundWays_19 : decode cX8_roundWays 19 = .ok (.iconst (-1), 1) := by decide +kernel
theorem dX8_roundWays_20 : decode cX8_roundWays 20 = .ok (.invokevirtual 229, 3) := by decide +kernel
theorem dX8_roundWays_23 : decode cX8_roundWays 23 = .ok (.istore 4, 2) := by decide +kernel
theorem dX8_roundWays_25 : decode cX8_roundWays 25 = .ok (.aload_n 0, 1) := by decide +kernel
theorem dX8_roundWays_26 : decode cX8_roundWays 26 = .ok (.iconst 1, 1) := by decide +kernel
theorem dX8_roundWays_27 : decode cX8_roundWays 27 = .ok (.aload_n 0, 1) := by decide +kernel
theorem dX8_roundWays_28 : decode cX8_roundWays 28 = .ok (.getfield 196, 3) := by decide +kernel
theorem dX8_roundWays_31 : decode cX8_roundWays 31 = .ok (.isub, 1) := by decide +kernel
theorem dX8_roundWays_32 : decode cX8_roundWays 32 = .ok (.iload_n 1, 1) := by decide +kernel
theorem dX8_roundWays_33 : decode cX8_roundWays 33 = .ok (.iconst 0, 1) := by decide +kernel
theorem dX8_roundWays_34 : decode cX8_roundWays 34 = .ok (.invokevirtual 229, 3) := by decide +kernel
theorem dX8_roundWays_37 : decode cX8_roundWays 37 = .ok (.istore 5, 2) := by decide +kernel
theorem dX8_roundWays_39 : decode cX8_roundWays 39 = .ok (.iload_n 3, 1) := by decide +kernel
theorem dX8_roundWays_40 : decode cX8_roundWays 40 = .ok (.bipush 6, 2) := by decide +kernel
theorem dX8_roundWays_42 : decode cX8_roundWays 42 = .ok (.iload 4, 2) := by decide +kernel
theorem dX8_roundWays_44 : decode cX8_roundWays 44 = .ok (.isub, 1) := by decide +kernel
theorem dX8_roundWays_45 : decode cX8_roundWays 45 = .ok (.imul, 1) := by decide +kernel
theorem dX8_roundWays_46 : decode cX8_roundWays 46 = .ok (.istore 6, 2) := by decide +kernel
theorem dX8_roundWays_48 : decode cX8_roundWays 48 = .ok (.bipush 6, 2) := by decide +kernel
theorem dX8_roundWays_50 : decode cX8_roundWays 50 = .ok (.iload_n 3, 1) := by decide +kernel
theorem dX8_roundWays_51 : decode cX8_roundWays 51 = .ok (.isub, 1) := by decide +kernel
theorem dX8_roundWays_52 : decode cX8_roundWays 52 = .ok (.iload 5, 2) := by decide +kernel
theorem dX8_roundWays_54 : decode cX8_roundWays 54 = .ok (.imul, 1) := by decide +kernel
theorem dX8_roundWays_55 : decode cX8_roundWays 55 = .ok (.istore 7, 2) := by decide +kernel
theorem dX8_roundWays_57 : decode cX8_roundWays 57 = .ok (.iload_n 2, 1) := by decide +kernel
theorem dX8_roundWays_58 : decode cX8_roundWays 58 = .ok (.iconst (-1), 1) := by decide +kernel
theorem dX8_roundWays_59 : decode cX8_roundWays 59 = .ok (.if_icmp .ne 14, 3) := by decide +kernel
theorem dX8_roundWays_62 : decode cX8_roundWays 62 = .ok (.bipush 36, 2) := by decide +kernel
theorem dX8_roundWays_64 : decode cX8_roundWays 64 = .ok (.iload 6, 2) := by decide +kernel
theorem dX8_roundWays_66 : decode cX8_roundWays 66 = .ok (.isub, 1) := by decide +kernel
theorem dX8_roundWays_67 : decode cX8_roundWays 67 = .ok (.iload 7, 2) := by decide +kernel
theorem dX8_roundWays_69 : decode cX8_roundWays 69 = .ok (.isub, 1) := by decide +kernel
theorem dX8_roundWays_70 : decode cX8_roundWays 70 = .ok (.goto 18, 3) := by decide +kernel
theorem dX8_roundWays_73 : decode cX8_roundWays 73 = .ok (.iload_n 2, 1) := by decide +kernel
theorem dX8_roundWays_74 : decode cX8_roundWays 74 = .ok (.aload_n 0, 1) := by decide +kernel
theorem dX8_roundWays_75 : decode cX8_roundWays 75 = .ok (.getfield 196, 3) := by decide +kernel
theorem dX8_roundWays_78 : decode cX8_roundWays 78 = .ok (.if_icmp .ne 8, 3) := by decide +kernel
theorem dX8_roundWays_81 : decode cX8_roundWays 81 = .ok (.iload 6, 2) := by decide +kernel
theorem dX8_roundWays_83 : decode cX8_roundWays 83 = .ok (.goto 5, 3) := by decide +kernel
theorem dX8_roundWays_86 : decode cX8_roundWays 86 = .ok (.iload 7, 2) := by decide +kernel
theorem dX8_roundWays_88 : decode cX8_roundWays 88 = .ok (.ireturn, 1) := by decide +kernel
theorem dX8_laySudden_0 : decode cX8_laySudden 0 = .ok (.aload_n 0, 1) := by decide +kernel
theorem dX8_laySudden_1 : decode cX8_laySudden 1 = .ok (.invokevirtual 190, 3) := by decide +kernel
theorem dX8_laySudden_4 : decode cX8_laySudden 4 = .ok (.istore_n 1, 1) := by decide +kernel
theorem dX8_laySudden_5 : decode cX8_laySudden 5 = .ok (.lconst 1, 1) := by decide +kernel
theorem dX8_laySudden_6 : decode cX8_laySudden 6 = .ok (.lstore_n 2, 1) := by decide +kernel
theorem dX8_laySudden_7 : decode cX8_laySudden 7 = .ok (.lconst 1, 1) := by decide +kernel
theorem dX8_laySudden_8 : decode cX8_laySudden 8 = .ok (.lstore 4, 2) := by decide +kernel
theorem dX8_laySudden_10 : decode cX8_laySudden 10 = .ok (.iconst 0, 1) := by decide +kernel
theorem dX8_laySudden_11 : decode cX8_laySudden 11 = .ok (.istore 6, 2) := by decide +kernel
theorem dX8_laySudden_13 : decode cX8_laySudden 13 = .ok (.iload 6, 2) := by decide +kernel
theorem dX8_laySudden_15 : decode cX8_laySudden 15 = .ok (.iload_n 1, 1) := by decide +kernel
theorem dX8_laySudden_16 : decode cX8_laySudden 16 = .ok (.if_icmp .ge 28, 3) := by decide +kernel
theorem dX8_laySudden_19 : decode cX8_laySudden 19 = .ok (.lload_n 2, 1) := by decide +kernel
theorem dX8_laySudden_20 : decode cX8_laySudden 20 = .ok (.ldc2_w 239, 3) := by decide +kernel
theorem dX8_laySudden_23 : decode cX8_laySudden 23 = .ok (.lmul, 1) := by decide +kernel
theorem dX8_laySudden_24 : decode cX8_laySudden 24 = .ok (.lstore_n 2, 1) := by decide +kernel
theorem dX8_laySudden_25 : decode cX8_laySudden 25 = .ok (.lload 4, 2) := by decide +kernel
theorem dX8_laySudden_27 : decode cX8_laySudden 27 = .ok (.aload_n 0, 1) := by decide +kernel
theorem dX8_laySudden_28 : decode cX8_laySudden 28 = .ok (.iload 6, 2) := by decide +kernel
theorem dX8_laySudden_30 : decode cX8_laySudden 30 = .ok (.iconst (-1), 1) := by decide +kernel
theorem dX8_laySudden_31 : decode cX8_laySudden 31 = .ok (.invokevirtual 241, 3) := by decide +kernel
theorem dX8_laySudden_34 : decode cX8_laySudden 34 = .ok (.i2l, 1) := by decide +kernel
theorem dX8_laySudden_35 : decode cX8_laySudden 35 = .ok (.lmul, 1) := by decide +kernel
theorem dX8_laySudden_36 : decode cX8_laySudden 36 = .ok (.lstore 4, 2) := by decide +kernel
theorem dX8_laySudden_38 : decode cX8_laySudden 38 = .ok (.iinc 6 1, 3) := by decide +kernel
theorem dX8_laySudden_41 : decode cX8_laySudden 41 = .ok (.goto (-28), 3) := by decide +kernel
theorem dX8_laySudden_44 : decode cX8_laySudden 44 = .ok (.aload_n 0, 1) := by decide +kernel
theorem dX8_laySudden_45 : decode cX8_laySudden 45 = .ok (.lload_n 2, 1) := by decide +kernel
theorem dX8_laySudden_46 : decode cX8_laySudden 46 = .ok (.lload 4, 2) := by decide +kernel
theorem dX8_laySudden_48 : decode cX8_laySudden 48 = .ok (.lcmp, 1) := by decide +kernel
theorem dX8_laySudden_49 : decode cX8_laySudden 49 = .ok (.ifCond .ne 7, 3) := by decide +kernel
theorem dX8_laySudden_52 : decode cX8_laySudden 52 = .ok (.lconst 1, 1) := by decide +kernel
theorem dX8_laySudden_53 : decode cX8_laySudden 53 = .ok (.goto 7, 3) := by decide +kernel
theorem dX8_laySudden_56 : decode cX8_laySudden 56 = .ok (.lload_n 2, 1) := by decide +kernel
theorem dX8_laySudden_57 : decode cX8_laySudden 57 = .ok (.lload 4, 2) := by decide +kernel
theorem dX8_laySudden_59 : decode cX8_laySudden 59 = .ok (.lsub, 1) := by decide +kernel
theorem dX8_laySudden_60 : decode cX8_laySudden 60 = .ok (.putfield 245, 3) := by decide +kernel
theorem dX8_laySudden_63 : decode cX8_laySudden 63 = .ok (.iconst 0, 1) := by decide +kernel
theorem dX8_laySudden_64 : decode cX8_laySudden 64 = .ok (.istore 6, 2) := by decide +kernel
theorem dX8_laySudden_66 : decode cX8_laySudden 66 = .ok (.iload 6, 2) := by decide +kernel
theorem dX8_laySudden_68 : decode cX8_laySudden 68 = .ok (.iconst 2, 1) := by decide +kernel
theorem dX8_laySudden_69 : decode cX8_laySudden 69 = .ok (.if_icmp .ge 123, 3) := by decide +kernel
theorem dX8_laySudden_72 : decode cX8_laySudden 72 = .ok (.iconst 0, 1) := by decide +kernel
theorem dX8_laySudden_73 : decode cX8_laySudden 73 = .ok (.istore 7, 2) := by decide +kernel
theorem dX8_laySudden_75 : decode cX8_laySudden 75 = .ok (.iload 7, 2) := by decide +kernel
theorem dX8_laySudden_77 : decode cX8_laySudden 77 = .ok (.iload_n 1, 1) := by decide +kernel
theorem dX8_laySudden_78 : decode cX8_laySudden 78 = .ok (.if_icmp .ge 108, 3) := by decide +kernel
theorem dX8_laySudden_81 : decode cX8_laySudden 81 = .ok (.lconst 0, 1) := by decide +kernel
theorem dX8_laySudden_82 : decode cX8_laySudden 82 = .ok (.lstore 8, 2) := by decide +kernel
theorem dX8_laySudden_84 : decode cX8_laySudden 84 = .ok (.lconst 1, 1) := by decide +kernel
theorem dX8_laySudden_85 : decode cX8_laySudden 85 = .ok (.lstore 10, 2) := by decide +kernel
theorem dX8_laySudden_87 : decode cX8_laySudden 87 = .ok (.lload_n 2, 1) := by decide +kernel
theorem dX8_laySudden_88 : decode cX8_laySudden 88 = .ok (.lstore 12, 2) := by decide +kernel
theorem dX8_laySudden_90 : decode cX8_laySudden 90 = .ok (.iconst 0, 1) := by decide +kernel
theorem dX8_laySudden_91 : decode cX8_laySudden 91 = .ok (.istore 14, 2) := by decide +kernel
theorem dX8_laySudden_93 : decode cX8_laySudden 93 = .ok (.iload 14, 2) := by decide +kernel
theorem dX8_laySudden_95 : decode cX8_laySudden 95 = .ok (.iload_n 1, 1) := by decide +kernel
theorem dX8_laySudden_96 : decode cX8_laySudden 96 = .ok (.if_icmp .ge 59, 3) := by decide +kernel
theorem dX8_laySudden_99 : decode cX8_laySudden 99 = .ok (.iload 7, 2) := by decide +kernel
theorem dX8_laySudden_101 : decode cX8_laySudden 101 = .ok (.iload 14, 2) := by decide +kernel
theorem dX8_laySudden_103 : decode cX8_laySudden 103 = .ok (.iadd, 1) := by decide +kernel
theorem dX8_laySudden_104 : decode cX8_laySudden 104 = .ok (.iload_n 1, 1) := by decide +kernel
theorem dX8_laySudden_105 : decode cX8_laySudden 105 = .ok (.irem, 1) := by decide +kernel
theorem dX8_laySudden_106 : decode cX8_laySudden 106 = .ok (.istore 15, 2) := by decide +kernel
theorem dX8_laySudden_108 : decode cX8_laySudden 108 = .ok (.lload 12, 2) := by decide +kernel
theorem dX8_laySudden_110 : decode cX8_laySudden 110 = .ok (.ldc2_w 239, 3) := by decide +kernel
theorem dX8_laySudden_113 : decode cX8_laySudden 113 = .ok (.ldiv, 1) := by decide +kernel
theorem dX8_laySudden_114 : decode cX8_laySudden 114 = .ok (.lstore 12, 2) := by decide +kernel
theorem dX8_laySudden_116 : decode cX8_laySudden 116 = .ok (.lload 8, 2) := by decide +kernel
theorem dX8_laySudden_118 : decode cX8_laySudden 118 = .ok (.lload 10, 2) := by decide +kernel
theorem dX8_laySudden_120 : decode cX8_laySudden 120 = .ok (.aload_n 0, 1) := by decide +kernel
theorem dX8_laySudden_121 : decode cX8_laySudden 121 = .ok (.iload 15, 2) := by decide +kernel
theorem dX8_laySudden_123 : decode cX8_laySudden 123 = .ok (.iload 6, 2) := by decide +kernel
theorem dX8_laySudden_125 : decode cX8_laySudden 125 = .ok (.invokevirtual 241, 3) := by decide +kernel
theorem dX8_laySudden_128 : decode cX8_laySudden 128 = .ok (.i2l, 1) := by decide +kernel
theorem dX8_laySudden_129 : decode cX8_laySudden 129 = .ok (.lmul, 1) := by decide +kernel
theorem dX8_laySudden_130 : decode cX8_laySudden 130 = .ok (.lload 12, 2) := by decide +kernel
theorem dX8_laySudden_132 : decode cX8_laySudden 132 = .ok (.lmul, 1) := by decide +kernel
theorem dX8_laySudden_133 : decode cX8_laySudden 133 = .ok (.ladd, 1) := by decide +kernel
theorem dX8_laySudden_134 : decode cX8_laySudden 134 = .ok (.lstore 8, 2) := by decide +kernel
theorem dX8_laySudden_136 : decode cX8_laySudden 136 = .ok (.lload 10, 2) := by decide +kernel
theorem dX8_laySudden_138 : decode cX8_laySudden 138 = .ok (.aload_n 0, 1) := by decide +kernel
theorem dX8_laySudden_139 : decode cX8_laySudden 139 = .ok (.iload 15, 2) := by decide +kernel
theorem dX8_laySudden_141 : decode cX8_laySudden 141 = .ok (.iconst (-1), 1) := by decide +kernel
theorem dX8_laySudden_142 : decode cX8_laySudden 142 = .ok (.invokevirtual 241, 3) := by decide +kernel
theorem dX8_laySudden_145 : decode cX8_laySudden 145 = .ok (.i2l, 1) := by decide +kernel
theorem dX8_laySudden_146 : decode cX8_laySudden 146 = .ok (.lmul, 1) := by decide +kernel
theorem dX8_laySudden_147 : decode cX8_laySudden 147 = .ok (.lstore 10, 2) := by decide +kernel
theorem dX8_laySudden_149 : decode cX8_laySudden 149 = .ok (.iinc 14 1, 3) := by decide +kernel
theorem dX8_laySudden_152 : decode cX8_laySudden 152 = .ok (.goto (-59), 3) := by decide +kernel
theorem dX8_laySudden_155 : decode cX8_laySudden 155 = .ok (.aload_n 0, 1) := by decide +kernel
theorem dX8_laySudden_156 : decode cX8_laySudden 156 = .ok (.getfield 44, 3) := by decide +kernel
theorem dX8_laySudden_159 : decode cX8_laySudden 159 = .ok (.iconst 5, 1) := by decide +kernel
theorem dX8_laySudden_160 : decode cX8_laySudden 160 = .ok (.iload 6, 2) := by decide +kernel
theorem dX8_laySudden_162 : decode cX8_laySudden 162 = .ok (.imul, 1) := by decide +kernel
theorem dX8_laySudden_163 : decode cX8_laySudden 163 = .ok (.iload 7, 2) := by decide +kernel
theorem dX8_laySudden_165 : decode cX8_laySudden 165 = .ok (.iadd, 1) := by decide +kernel
theorem dX8_laySudden_166 : decode cX8_laySudden 166 = .ok (.lload_n 2, 1) := by decide +kernel
theorem dX8_laySudden_167 : decode cX8_laySudden 167 = .ok (.lload 4, 2) := by decide +kernel
theorem dX8_laySudden_169 : decode cX8_laySudden 169 = .ok (.lcmp, 1) := by decide +kernel
theorem dX8_laySudden_170 : decode cX8_laySudden 170 = .ok (.ifCond .ne 7, 3) := by decide +kernel
theorem dX8_laySudden_173 : decode cX8_laySudden 173 = .ok (.lconst 0, 1) := by decide +kernel
theorem dX8_laySudden_174 : decode cX8_laySudden 174 = .ok (.goto 5, 3) := by decide +kernel
theorem dX8_laySudden_177 : decode cX8_laySudden 177 = .ok (.lload 8, 2) := by decide +kernel
theorem dX8_laySudden_179 : decode cX8_laySudden 179 = .ok (.lastore, 1) := by decide +kernel
theorem dX8_laySudden_180 : decode cX8_laySudden 180 = .ok (.iinc 7 1, 3) := by decide +kernel
theorem dX8_laySudden_183 : decode cX8_laySudden 183 = .ok (.goto (-108), 3) := by decide +kernel
theorem dX8_laySudden_186 : decode cX8_laySudden 186 = .ok (.iinc 6 1, 3) := by decide +kernel
theorem dX8_laySudden_189 : decode cX8_laySudden 189 = .ok (.goto (-123), 3) := by decide +kernel
theorem dX8_laySudden_192 : decode cX8_laySudden 192 = .ok (.return_, 1) := by decide +kernel
theorem dX8_keepMoment_0 : decode cX8_keepMoment 0 = .ok (.aload_n 0, 1) := by decide +kernel
theorem dX8_keepMoment_1 : decode cX8_keepMoment 1 = .ok (.getfield 57, 3) := by decide +kernel
theorem dX8_keepMoment_4 : decode cX8_keepMoment 4 = .ok (.iconst 0, 1) := by decide +kernel
theorem dX8_keepMoment_5 : decode cX8_keepMoment 5 = .ok (.aload_n 0, 1) := by decide +kernel
theorem dX8_keepMoment_6 : decode cX8_keepMoment 6 = .ok (.getfield 38, 3) := by decide +kernel
theorem dX8_keepMoment_9 : decode cX8_keepMoment 9 = .ok (.iconst 0, 1) := by decide +kernel
theorem dX8_keepMoment_10 : decode cX8_keepMoment 10 = .ok (.iaload, 1) := by decide +kernel
theorem dX8_keepMoment_11 : decode cX8_keepMoment 11 = .ok (.iastore, 1) := by decide +kernel
theorem dX8_keepMoment_12 : decode cX8_keepMoment 12 = .ok (.aload_n 0, 1) := by decide +kernel
theorem dX8_keepMoment_13 : decode cX8_keepMoment 13 = .ok (.getfield 57, 3) := by decide +kernel
theorem dX8_keepMoment_16 : decode cX8_keepMoment 16 = .ok (.iconst 1, 1) := by decide +kernel
theorem dX8_keepMoment_17 : decode cX8_keepMoment 17 = .ok (.aload_n 0, 1) := by decide +kernel
theorem dX8_keepMoment_18 : decode cX8_keepMoment 18 = .ok (.getfield 38, 3) := by decide +kernel
theorem dX8_keepMoment_21 : decode cX8_keepMoment 21 = .ok (.iconst 1, 1) := by decide +kernel
theorem dX8_keepMoment_22 : decode cX8_keepMoment 22 = .ok (.iaload, 1) := by decide +kernel
theorem dX8_keepMoment_23 : decode cX8_keepMoment 23 = .ok (.iastore, 1) := by decide +kernel
theorem dX8_keepMoment_24 : decode cX8_keepMoment 24 = .ok (.aload_n 0, 1) := by decide +kernel
theorem dX8_keepMoment_25 : decode cX8_keepMoment 25 = .ok (.getfield 57, 3) := by decide +kernel
theorem dX8_keepMoment_28 : decode cX8_keepMoment 28 = .ok (.iconst 2, 1) := by decide +kernel
theorem dX8_keepMoment_29 : decode cX8_keepMoment 29 = .ok (.aload_n 0, 1) := by decide +kernel
theorem dX8_keepMoment_30 : decode cX8_keepMoment 30 = .ok (.getfield 41, 3) := by decide +kernel
theorem dX8_keepMoment_33 : decode cX8_keepMoment 33 = .ok (.iconst 0, 1) := by decide +kernel
theorem dX8_keepMoment_34 : decode cX8_keepMoment 34 = .ok (.iaload, 1) := by decide +kernel
theorem dX8_keepMoment_35 : decode cX8_keepMoment 35 = .ok (.iastore, 1) := by decide +kernel
theorem dX8_keepMoment_36 : decode cX8_keepMoment 36 = .ok (.aload_n 0, 1) := by decide +kernel
theorem dX8_keepMoment_37 : decode cX8_keepMoment 37 = .ok (.getfield 57, 3) := by decide +kernel
theorem dX8_keepMoment_40 : decode cX8_keepMoment 40 = .ok (.iconst 3, 1) := by decide +kernel
theorem dX8_keepMoment_41 : decode cX8_keepMoment 41 = .ok (.aload_n 0, 1) := by decide +kernel
theorem dX8_keepMoment_42 : decode cX8_keepMoment 42 = .ok (.getfield 41, 3) := by decide +kernel
theorem dX8_keepMoment_45 : decode cX8_keepMoment 45 = .ok (.iconst 1, 1) := by decide +kernel
theorem dX8_keepMoment_46 : decode cX8_keepMoment 46 = .ok (.iaload, 1) := by decide +kernel
theorem dX8_keepMoment_47 : decode cX8_keepMoment 47 = .ok (.iastore, 1) := by decide +kernel
theorem dX8_keepMoment_48 : decode cX8_keepMoment 48 = .ok (.aload_n 0, 1) := by decide +kernel
theorem dX8_keepMoment_49 : decode cX8_keepMoment 49 = .ok (.getfield 57, 3) := by decide +kernel
theorem dX8_keepMoment_52 : decode cX8_keepMoment 52 = .ok (.iconst 4, 1) := by decide +kernel
theorem dX8_keepMoment_53 : decode cX8_keepMoment 53 = .ok (.aload_n 0, 1) := by decide +kernel
theorem dX8_keepMoment_54 : decode cX8_keepMoment 54 = .ok (.getfield 202, 3) := by decide +kernel
theorem dX8_keepMoment_57 : decode cX8_keepMoment 57 = .ok (.iastore, 1) := by decide +kernel
theorem dX8_keepMoment_58 : decode cX8_keepMoment 58 = .ok (.aload_n 0, 1) := by decide +kernel
theorem dX8_keepMoment_59 : decode cX8_keepMoment 59 = .ok (.getfield 57, 3) := by decide +kernel
theorem dX8_keepMoment_62 : decode cX8_keepMoment 62 = .ok (.iconst 5, 1) := by decide +kernel
theorem dX8_keepMoment_63 : decode cX8_keepMoment 63 = .ok (.aload_n 0, 1) := by decide +kernel
theorem dX8_keepMoment_64 : decode cX8_keepMoment 64 = .ok (.getfield 205, 3) := by decide +kernel
theorem dX8_keepMoment_67 : decode cX8_keepMoment 67 = .ok (.iastore, 1) := by decide +kernel
theorem dX8_keepMoment_68 : decode cX8_keepMoment 68 = .ok (.aload_n 0, 1) := by decide +kernel
theorem dX8_keepMoment_69 : decode cX8_keepMoment 69 = .ok (.aload_n 0, 1) := by decide +kernel
theorem dX8_keepMoment_70 : decode cX8_keepMoment 70 = .ok (.getfield 208, 3) := by decide +kernel
theorem dX8_keepMoment_73 : decode cX8_keepMoment 73 = .ok (.putfield 249, 3) := by decide +kernel
theorem dX8_keepMoment_76 : decode cX8_keepMoment 76 = .ok (.return_, 1) := by decide +kernel
theorem dX8_bringMoment_0 : decode cX8_bringMoment 0 = .ok (.aload_n 0, 1) := by decide +kernel
theorem dX8_bringMoment_1 : decode cX8_bringMoment 1 = .ok (.getfield 38, 3) := by decide +kernel
theorem dX8_bringMoment_4 : decode cX8_bringMoment 4 = .ok (.iconst 0, 1) := by decide +kernel
theorem dX8_bringMoment_5 : decode cX8_bringMoment 5 = .ok (.aload_n 0, 1) := by decide +kernel
theorem dX8_bringMoment_6 : decode cX8_bringMoment 6 = .ok (.getfield 57, 3) := by decide +kernel
theorem dX8_bringMoment_9 : decode cX8_bringMoment 9 = .ok (.iconst 0, 1) := by decide +kernel
theorem dX8_bringMoment_10 : decode cX8_bringMoment 10 = .ok (.iaload, 1) := by decide +kernel
theorem dX8_bringMoment_11 : decode cX8_bringMoment 11 = .ok (.iastore, 1) := by decide +kernel
theorem dX8_bringMoment_12 : decode cX8_bringMoment 12 = .ok (.aload_n 0, 1) := by decide +kernel
theorem dX8_bringMoment_13 : decode cX8_bringMoment 13 = .ok (.getfield 38, 3) := by decide +kernel
theorem dX8_bringMoment_16 : decode cX8_bringMoment 16 = .ok (.iconst 1, 1) := by decide +kernel
theorem dX8_bringMoment_17 : decode cX8_bringMoment 17 = .ok (.aload_n 0, 1) := by decide +kernel
theorem dX8_bringMoment_18 : decode cX8_bringMoment 18 = .ok (.getfield 57, 3) := by decide +kernel
theorem dX8_bringMoment_21 : decode cX8_bringMoment 21 = .ok (.iconst 1, 1) := by decide +kernel
theorem dX8_bringMoment_22 : decode cX8_bringMoment 22 = .ok (.iaload, 1) := by decide +kernel
theorem dX8_bringMoment_23 : decode cX8_bringMoment 23 = .ok (.iastore, 1) := by decide +kernel
theorem dX8_bringMoment_24 : decode cX8_bringMoment 24 = .ok (.aload_n 0, 1) := by decide +kernel
theorem dX8_bringMoment_25 : decode cX8_bringMoment 25 = .ok (.getfield 41, 3) := by decide +kernel
theorem dX8_bringMoment_28 : decode cX8_bringMoment 28 = .ok (.iconst 0, 1) := by decide +kernel
theorem dX8_bringMoment_29 : decode cX8_bringMoment 29 = .ok (.aload_n 0, 1) := by decide +kernel
theorem dX8_bringMoment_30 : decode cX8_bringMoment 30 = .ok (.getfield 57, 3) := by decide +kernel
theorem dX8_bringMoment_33 : decode cX8_bringMoment 33 = .ok (.iconst 2, 1) := by decide +kernel
theorem dX8_bringMoment_34 : decode cX8_bringMoment 34 = .ok (.iaload, 1) := by decide +kernel
theorem dX8_bringMoment_35 : decode cX8_bringMoment 35 = .ok (.iastore, 1) := by decide +kernel
theorem dX8_bringMoment_36 : decode cX8_bringMoment 36 = .ok (.aload_n 0, 1) := by decide +kernel
theorem dX8_bringMoment_37 : decode cX8_bringMoment 37 = .ok (.getfield 41, 3) := by decide +kernel
theorem dX8_bringMoment_40 : decode cX8_bringMoment 40 = .ok (.iconst 1, 1) := by decide +kernel
theorem dX8_bringMoment_41 : decode cX8_bringMoment 41 = .ok (.aload_n 0, 1) := by decide +kernel
theorem dX8_bringMoment_42 : decode cX8_bringMoment 42 = .ok (.getfield 57, 3) := by decide +kernel
theorem dX8_bringMoment_45 : decode cX8_bringMoment 45 = .ok (.iconst 3, 1) := by decide +kernel
theorem dX8_bringMoment_46 : decode cX8_bringMoment 46 = .ok (.iaload, 1) := by decide +kernel
theorem dX8_bringMoment_47 : decode cX8_bringMoment 47 = .ok (.iastore, 1) := by decide +kernel
theorem dX8_bringMoment_48 : decode cX8_bringMoment 48 = .ok (.aload_n 0, 1) := by decide +kernel
theorem dX8_bringMoment_49 : decode cX8_bringMoment 49 = .ok (.aload_n 0, 1) := by decide +kernel
theorem dX8_bringMoment_50 : decode cX8_bringMoment 50 = .ok (.getfield 57, 3) := by decide +kernel
theorem dX8_bringMoment_53 : decode cX8_bringMoment 53 = .ok (.iconst 4, 1) := by decide +kernel
theorem dX8_bringMoment_54 : decode cX8_bringMoment 54 = .ok (.iaload, 1) := by decide +kernel
theorem dX8_bringMoment_55 : decode cX8_bringMoment 55 = .ok (.putfield 202, 3) := by decide +kernel
theorem dX8_bringMoment_58 : decode cX8_bringMoment 58 = .ok (.aload_n 0, 1) := by decide +kernel
theorem dX8_bringMoment_59 : decode cX8_bringMoment 59 = .ok (.aload_n 0, 1) := by decide +kernel
theorem dX8_bringMoment_60 : decode cX8_bringMoment 60 = .ok (.getfield 57, 3) := by decide +kernel
theorem dX8_bringMoment_63 : decode cX8_bringMoment 63 = .ok (.iconst 5, 1) := by decide +kernel
theorem dX8_bringMoment_64 : decode cX8_bringMoment 64 = .ok (.iaload, 1) := by decide +kernel
theorem dX8_bringMoment_65 : decode cX8_bringMoment 65 = .ok (.putfield 205, 3) := by decide +kernel
theorem dX8_bringMoment_68 : decode cX8_bringMoment 68 = .ok (.aload_n 0, 1) := by decide +kernel
theorem dX8_bringMoment_69 : decode cX8_bringMoment 69 = .ok (.aload_n 0, 1) := by decide +kernel
theorem dX8_bringMoment_70 : decode cX8_bringMoment 70 = .ok (.getfield 249, 3) := by decide +kernel
theorem dX8_bringMoment_73 : decode cX8_bringMoment 73 = .ok (.putfield 208, 3) := by decide +kernel
theorem dX8_bringMoment_76 : decode cX8_bringMoment 76 = .ok (.return_, 1) := by decide +kernel
theorem dX8_sixes_0 : decode cX8_sixes 0 = .ok (.lconst 1, 1) := by decide +kernel
theorem dX8_sixes_1 : decode cX8_sixes 1 = .ok (.lstore_n 1, 1) := by decide +kernel
theorem dX8_sixes_2 : decode cX8_sixes 2 = .ok (.iconst 0, 1) := by decide +kernel
theorem dX8_sixes_3 : decode cX8_sixes 3 = .ok (.istore_n 3, 1) := by decide +kernel
theorem dX8_sixes_4 : decode cX8_sixes 4 = .ok (.iload_n 3, 1) := by decide +kernel
theorem dX8_sixes_5 : decode cX8_sixes 5 = .ok (.iload_n 0, 1) := by decide +kernel
theorem dX8_sixes_6 : decode cX8_sixes 6 = .ok (.if_icmp .ge 15, 3) := by decide +kernel
theorem dX8_sixes_9 : decode cX8_sixes 9 = .ok (.lload_n 1, 1) := by decide +kernel
theorem dX8_sixes_10 : decode cX8_sixes 10 = .ok (.ldc2_w 252, 3) := by decide +kernel
theorem dX8_sixes_13 : decode cX8_sixes 13 = .ok (.lmul, 1) := by decide +kernel
theorem dX8_sixes_14 : decode cX8_sixes 14 = .ok (.lstore_n 1, 1) := by decide +kernel
theorem dX8_sixes_15 : decode cX8_sixes 15 = .ok (.iinc 3 1, 3) := by decide +kernel
theorem dX8_sixes_18 : decode cX8_sixes 18 = .ok (.goto (-14), 3) := by decide +kernel
theorem dX8_sixes_21 : decode cX8_sixes 21 = .ok (.lload_n 1, 1) := by decide +kernel
theorem dX8_sixes_22 : decode cX8_sixes 22 = .ok (.lreturn, 1) := by decide +kernel
theorem dX8_goWay_0 : decode cX8_goWay 0 = .ok (.aload_n 0, 1) := by decide +kernel
theorem dX8_goWay_1 : decode cX8_goWay 1 = .ok (.invokevirtual 254, 3) := by decide +kernel
theorem dX8_goWay_4 : decode cX8_goWay 4 = .ok (.lconst 1, 1) := by decide +kernel
theorem dX8_goWay_5 : decode cX8_goWay 5 = .ok (.lstore_n 3, 1) := by decide +kernel
theorem dX8_goWay_6 : decode cX8_goWay 6 = .ok (.iconst 0, 1) := by decide +kernel
theorem dX8_goWay_7 : decode cX8_goWay 7 = .ok (.istore 5, 2) := by decide +kernel
theorem dX8_goWay_9 : decode cX8_goWay 9 = .ok (.iload 5, 2) := by decide +kernel
theorem dX8_goWay_11 : decode cX8_goWay 11 = .ok (.iload_n 2, 1) := by decide +kernel
theorem dX8_goWay_12 : decode cX8_goWay 12 = .ok (.if_icmp .ge 57, 3) := by decide +kernel
theorem dX8_goWay_15 : decode cX8_goWay 15 = .ok (.aload_n 0, 1) := by decide +kernel
theorem dX8_goWay_16 : decode cX8_goWay 16 = .ok (.getfield 208, 3) := by decide +kernel
theorem dX8_goWay_19 : decode cX8_goWay 19 = .ok (.ifCond .ne 50, 3) := by decide +kernel
theorem dX8_goWay_22 : decode cX8_goWay 22 = .ok (.aload_n 0, 1) := by decide +kernel
theorem dX8_goWay_23 : decode cX8_goWay 23 = .ok (.invokevirtual 257, 3) := by decide +kernel
theorem dX8_goWay_26 : decode cX8_goWay 26 = .ok (.istore 6, 2) := by decide +kernel
theorem dX8_goWay_28 : decode cX8_goWay 28 = .ok (.iload_n 1, 1) := by decide +kernel
theorem dX8_goWay_29 : decode cX8_goWay 29 = .ok (.iload 5, 2) := by decide +kernel
theorem dX8_goWay_31 : decode cX8_goWay 31 = .ok (.ishr, 1) := by decide +kernel
theorem dX8_goWay_32 : decode cX8_goWay 32 = .ok (.iconst 1, 1) := by decide +kernel
theorem dX8_goWay_33 : decode cX8_goWay 33 = .ok (.iand, 1) := by decide +kernel
theorem dX8_goWay_34 : decode cX8_goWay 34 = .ok (.istore 7, 2) := by decide +kernel
theorem dX8_goWay_36 : decode cX8_goWay 36 = .ok (.lload_n 3, 1) := by decide +kernel
theorem dX8_goWay_37 : decode cX8_goWay 37 = .ok (.iload 7, 2) := by decide +kernel
theorem dX8_goWay_39 : decode cX8_goWay 39 = .ok (.iconst 1, 1) := by decide +kernel
theorem dX8_goWay_40 : decode cX8_goWay 40 = .ok (.if_icmp .ne 9, 3) := by decide +kernel
theorem dX8_goWay_43 : decode cX8_goWay 43 = .ok (.iload 6, 2) := by decide +kernel
theorem dX8_goWay_45 : decode cX8_goWay 45 = .ok (.i2l, 1) := by decide +kernel
theorem dX8_goWay_46 : decode cX8_goWay 46 = .ok (.goto 9, 3) := by decide +kernel
theorem dX8_goWay_49 : decode cX8_goWay 49 = .ok (.bipush 6, 2) := by decide +kernel
theorem dX8_goWay_51 : decode cX8_goWay 51 = .ok (.iload 6, 2) := by decide +kernel
theorem dX8_goWay_53 : decode cX8_goWay 53 = .ok (.isub, 1) := by decide +kernel
theorem dX8_goWay_54 : decode cX8_goWay 54 = .ok (.i2l, 1) := by decide +kernel
theorem dX8_goWay_55 : decode cX8_goWay 55 = .ok (.lmul, 1) := by decide +kernel
theorem dX8_goWay_56 : decode cX8_goWay 56 = .ok (.lstore_n 3, 1) := by decide +kernel
theorem dX8_goWay_57 : decode cX8_goWay 57 = .ok (.aload_n 0, 1) := by decide +kernel
theorem dX8_goWay_58 : decode cX8_goWay 58 = .ok (.iload 7, 2) := by decide +kernel
theorem dX8_goWay_60 : decode cX8_goWay 60 = .ok (.invokevirtual 214, 3) := by decide +kernel
theorem dX8_goWay_63 : decode cX8_goWay 63 = .ok (.iinc 5 1, 3) := by decide +kernel
theorem dX8_goWay_66 : decode cX8_goWay 66 = .ok (.goto (-57), 3) := by decide +kernel
theorem dX8_goWay_69 : decode cX8_goWay 69 = .ok (.iload_n 1, 1) := by decide +kernel
theorem dX8_goWay_70 : decode cX8_goWay 70 = .ok (.iload 5, 2) := by decide +kernel
theorem dX8_goWay_72 : decode cX8_goWay 72 = .ok (.ishr, 1) := by decide +kernel
theorem dX8_goWay_73 : decode cX8_goWay 73 = .ok (.ifCond .eq 4, 3) := by decide +kernel
theorem dX8_goWay_76 : decode cX8_goWay 76 = .ok (.return_, 1) := by decide +kernel
theorem dX8_goWay_77 : decode cX8_goWay 77 = .ok (.lload_n 3, 1) := by decide +kernel
theorem dX8_goWay_78 : decode cX8_goWay 78 = .ok (.iload_n 2, 1) := by decide +kernel
theorem dX8_goWay_79 : decode cX8_goWay 79 = .ok (.iload 5, 2) := by decide +kernel
theorem dX8_goWay_81 : decode cX8_goWay 81 = .ok (.isub, 1) := by decide +kernel
theorem dX8_goWay_82 : decode cX8_goWay 82 = .ok (.invokestatic 260, 3) := by decide +kernel
theorem dX8_goWay_85 : decode cX8_goWay 85 = .ok (.lmul, 1) := by decide +kernel
theorem dX8_goWay_86 : decode cX8_goWay 86 = .ok (.lstore_n 3, 1) := by decide +kernel
theorem dX8_goWay_87 : decode cX8_goWay 87 = .ok (.aload_n 0, 1) := by decide +kernel
theorem dX8_goWay_88 : decode cX8_goWay 88 = .ok (.getfield 208, 3) := by decide +kernel
theorem dX8_goWay_91 : decode cX8_goWay 91 = .ok (.ifCond .eq 32, 3) := by decide +kernel
theorem dX8_goWay_94 : decode cX8_goWay 94 = .ok (.aload_n 0, 1) := by decide +kernel
theorem dX8_goWay_95 : decode cX8_goWay 95 = .ok (.getfield 48, 3) := by decide +kernel
theorem dX8_goWay_98 : decode cX8_goWay 98 = .ok (.aload_n 0, 1) := by decide +kernel
theorem dX8_goWay_99 : decode cX8_goWay 99 = .ok (.invokevirtual 264, 3) := by decide +kernel
theorem dX8_goWay_102 : decode cX8_goWay 102 = .ok (.dup2, 1) := by decide +kernel
theorem dX8_goWay_103 : decode cX8_goWay 103 = .ok (.laload, 1) := by decide +kernel
theorem dX8_goWay_104 : decode cX8_goWay 104 = .ok (.lload_n 3, 1) := by decide +kernel
theorem dX8_goWay_105 : decode cX8_goWay 105 = .ok (.ladd, 1) := by decide +kernel
theorem dX8_goWay_106 : decode cX8_goWay 106 = .ok (.lastore, 1) := by decide +kernel
theorem dX8_goWay_107 : decode cX8_goWay 107 = .ok (.aload_n 0, 1) := by decide +kernel
theorem dX8_goWay_108 : decode cX8_goWay 108 = .ok (.getfield 51, 3) := by decide +kernel
theorem dX8_goWay_111 : decode cX8_goWay 111 = .ok (.aload_n 0, 1) := by decide +kernel
theorem dX8_goWay_112 : decode cX8_goWay 112 = .ok (.getfield 202, 3) := by decide +kernel
theorem dX8_goWay_115 : decode cX8_goWay 115 = .ok (.dup2, 1) := by decide +kernel
theorem dX8_goWay_116 : decode cX8_goWay 116 = .ok (.laload, 1) := by decide +kernel
theorem dX8_goWay_117 : decode cX8_goWay 117 = .ok (.lload_n 3, 1) := by decide +kernel
theorem dX8_goWay_118 : decode cX8_goWay 118 = .ok (.ladd, 1) := by decide +kernel
theorem dX8_goWay_119 : decode cX8_goWay 119 = .ok (.lastore, 1) := by decide +kernel
theorem dX8_goWay_120 : decode cX8_goWay 120 = .ok (.goto 23, 3) := by decide +kernel
theorem dX8_goWay_123 : decode cX8_goWay 123 = .ok (.aload_n 0, 1) := by decide +kernel
theorem dX8_goWay_124 : decode cX8_goWay 124 = .ok (.dup, 1) := by decide +kernel
theorem dX8_goWay_125 : decode cX8_goWay 125 = .ok (.getfield 266, 3) := by decide +kernel
theorem dX8_goWay_128 : decode cX8_goWay 128 = .ok (.lload_n 3, 1) := by decide +kernel
theorem dX8_goWay_129 : decode cX8_goWay 129 = .ok (.ladd, 1) := by decide +kernel
theorem dX8_goWay_130 : decode cX8_goWay 130 = .ok (.putfield 266, 3) := by decide +kernel
theorem dX8_goWay_133 : decode cX8_goWay 133 = .ok (.aload_n 0, 1) := by decide +kernel
theorem dX8_goWay_134 : decode cX8_goWay 134 = .ok (.getfield 51, 3) := by decide +kernel
theorem dX8_goWay_137 : decode cX8_goWay 137 = .ok (.iconst 0, 1) := by decide +kernel
theorem dX8_goWay_138 : decode cX8_goWay 138 = .ok (.dup2, 1) := by decide +kernel
theorem dX8_goWay_139 : decode cX8_goWay 139 = .ok (.laload, 1) := by decide +kernel
theorem dX8_goWay_140 : decode cX8_goWay 140 = .ok (.lload_n 3, 1) := by decide +kernel
theorem dX8_goWay_141 : decode cX8_goWay 141 = .ok (.ladd, 1) := by decide +kernel
theorem dX8_goWay_142 : decode cX8_goWay 142 = .ok (.lastore, 1) := by decide +kernel
theorem dX8_goWay_143 : decode cX8_goWay 143 = .ok (.aload_n 0, 1) := by decide +kernel
theorem dX8_goWay_144 : decode cX8_goWay 144 = .ok (.getfield 54, 3) := by decide +kernel
theorem dX8_goWay_147 : decode cX8_goWay 147 = .ok (.bipush 6, 2) := by decide +kernel
theorem dX8_goWay_149 : decode cX8_goWay 149 = .ok (.aload_n 0, 1) := by decide +kernel
theorem dX8_goWay_150 : decode cX8_goWay 150 = .ok (.getfield 38, 3) := by decide +kernel
theorem dX8_goWay_153 : decode cX8_goWay 153 = .ok (.iconst 0, 1) := by decide +kernel
theorem dX8_goWay_154 : decode cX8_goWay 154 = .ok (.iaload, 1) := by decide +kernel
theorem dX8_goWay_155 : decode cX8_goWay 155 = .ok (.imul, 1) := by decide +kernel
theorem dX8_goWay_156 : decode cX8_goWay 156 = .ok (.aload_n 0, 1) := by decide +kernel
theorem dX8_goWay_157 : decode cX8_goWay 157 = .ok (.getfield 38, 3) := by decide +kernel
theorem dX8_goWay_160 : decode cX8_goWay 160 = .ok (.iconst 1, 1) := by decide +kernel
theorem dX8_goWay_161 : decode cX8_goWay 161 = .ok (.iaload, 1) := by decide +kernel
theorem dX8_goWay_162 : decode cX8_goWay 162 = .ok (.iadd, 1) := by decide +kernel
theorem dX8_goWay_163 : decode cX8_goWay 163 = .ok (.dup2, 1) := by decide +kernel
theorem dX8_goWay_164 : decode cX8_goWay 164 = .ok (.laload, 1) := by decide +kernel
theorem dX8_goWay_165 : decode cX8_goWay 165 = .ok (.lload_n 3, 1) := by decide +kernel
theorem dX8_goWay_166 : decode cX8_goWay 166 = .ok (.ladd, 1) := by decide +kernel
theorem dX8_goWay_167 : decode cX8_goWay 167 = .ok (.lastore, 1) := by decide +kernel
theorem dX8_goWay_168 : decode cX8_goWay 168 = .ok (.return_, 1) := by decide +kernel
theorem dX8_layWays_0 : decode cX8_layWays 0 = .ok (.aload_n 0, 1) := by decide +kernel
theorem dX8_layWays_1 : decode cX8_layWays 1 = .ok (.invokevirtual 269, 3) := by decide +kernel
theorem dX8_layWays_4 : decode cX8_layWays 4 = .ok (.iconst 2, 1) := by decide +kernel
theorem dX8_layWays_5 : decode cX8_layWays 5 = .ok (.aload_n 0, 1) := by decide +kernel
theorem dX8_layWays_6 : decode cX8_layWays 6 = .ok (.invokevirtual 190, 3) := by decide +kernel
theorem dX8_layWays_9 : decode cX8_layWays 9 = .ok (.imul, 1) := by decide +kernel
theorem dX8_layWays_10 : decode cX8_layWays 10 = .ok (.aload_n 0, 1) := by decide +kernel
theorem dX8_layWays_11 : decode cX8_layWays 11 = .ok (.getfield 202, 3) := by decide +kernel
theorem dX8_layWays_14 : decode cX8_layWays 14 = .ok (.isub, 1) := by decide +kernel
theorem dX8_layWays_15 : decode cX8_layWays 15 = .ok (.istore_n 1, 1) := by decide +kernel
theorem dX8_layWays_16 : decode cX8_layWays 16 = .ok (.aload_n 0, 1) := by decide +kernel
theorem dX8_layWays_17 : decode cX8_layWays 17 = .ok (.getfield 48, 3) := by decide +kernel
theorem dX8_layWays_20 : decode cX8_layWays 20 = .ok (.iconst 0, 1) := by decide +kernel
theorem dX8_layWays_21 : decode cX8_layWays 21 = .ok (.lconst 0, 1) := by decide +kernel
theorem dX8_layWays_22 : decode cX8_layWays 22 = .ok (.lastore, 1) := by decide +kernel
theorem dX8_layWays_23 : decode cX8_layWays 23 = .ok (.aload_n 0, 1) := by decide +kernel
theorem dX8_layWays_24 : decode cX8_layWays 24 = .ok (.getfield 48, 3) := by decide +kernel
theorem dX8_layWays_27 : decode cX8_layWays 27 = .ok (.iconst 1, 1) := by decide +kernel
theorem dX8_layWays_28 : decode cX8_layWays 28 = .ok (.lconst 0, 1) := by decide +kernel
theorem dX8_layWays_29 : decode cX8_layWays 29 = .ok (.lastore, 1) := by decide +kernel
theorem dX8_layWays_30 : decode cX8_layWays 30 = .ok (.aload_n 0, 1) := by decide +kernel
theorem dX8_layWays_31 : decode cX8_layWays 31 = .ok (.lconst 0, 1) := by decide +kernel
theorem dX8_layWays_32 : decode cX8_layWays 32 = .ok (.putfield 266, 3) := by decide +kernel
theorem dX8_layWays_35 : decode cX8_layWays 35 = .ok (.iconst 0, 1) := by decide +kernel
theorem dX8_layWays_36 : decode cX8_layWays 36 = .ok (.istore_n 2, 1) := by decide +kernel
theorem dX8_layWays_37 : decode cX8_layWays 37 = .ok (.iload_n 2, 1) := by decide +kernel
theorem dX8_layWays_38 : decode cX8_layWays 38 = .ok (.bipush 11, 2) := by decide +kernel
theorem dX8_layWays_40 : decode cX8_layWays 40 = .ok (.if_icmp .ge 16, 3) := by decide +kernel
theorem dX8_layWays_43 : decode cX8_layWays 43 = .ok (.aload_n 0, 1) := by decide +kernel
theorem dX8_layWays_44 : decode cX8_layWays 44 = .ok (.getfield 51, 3) := by decide +kernel
theorem dX8_layWays_47 : decode cX8_layWays 47 = .ok (.iload_n 2, 1) := by decide +kernel
theorem dX8_layWays_48 : decode cX8_layWays 48 = .ok (.lconst 0, 1) := by decide +kernel
theorem dX8_layWays_49 : decode cX8_layWays 49 = .ok (.lastore, 1) := by decide +kernel
theorem dX8_layWays_50 : decode cX8_layWays 50 = .ok (.iinc 2 1, 3) := by decide +kernel
theorem dX8_layWays_53 : decode cX8_layWays 53 = .ok (.goto (-16), 3) := by decide +kernel
theorem dX8_layWays_56 : decode cX8_layWays 56 = .ok (.iconst 0, 1) := by decide +kernel
theorem dX8_layWays_57 : decode cX8_layWays 57 = .ok (.istore_n 2, 1) := by decide +kernel
theorem dX8_layWays_58 : decode cX8_layWays 58 = .ok (.iload_n 2, 1) := by decide +kernel
theorem dX8_layWays_59 : decode cX8_layWays 59 = .ok (.bipush 36, 2) := by decide +kernel
theorem dX8_layWays_61 : decode cX8_layWays 61 = .ok (.if_icmp .ge 16, 3) := by decide +kernel
theorem dX8_layWays_64 : decode cX8_layWays 64 = .ok (.aload_n 0, 1) := by decide +kernel
theorem dX8_layWays_65 : decode cX8_layWays 65 = .ok (.getfield 54, 3) := by decide +kernel
theorem dX8_layWays_68 : decode cX8_layWays 68 = .ok (.iload_n 2, 1) := by decide +kernel
theorem dX8_layWays_69 : decode cX8_layWays 69 = .ok (.lconst 0, 1) := by decide +kernel
theorem dX8_layWays_70 : decode cX8_layWays 70 = .ok (.lastore, 1) := by decide +kernel
theorem dX8_layWays_71 : decode cX8_layWays 71 = .ok (.iinc 2 1, 3) := by decide +kernel
theorem dX8_layWays_74 : decode cX8_layWays 74 = .ok (.goto (-16), 3) := by decide +kernel
theorem dX8_layWays_77 : decode cX8_layWays 77 = .ok (.iconst 0, 1) := by decide +kernel
theorem dX8_layWays_78 : decode cX8_layWays 78 = .ok (.istore_n 2, 1) := by decide +kernel
theorem dX8_layWays_79 : decode cX8_layWays 79 = .ok (.iload_n 2, 1) := by decide +kernel
theorem dX8_layWays_80 : decode cX8_layWays 80 = .ok (.iconst 1, 1) := by decide +kernel
theorem dX8_layWays_81 : decode cX8_layWays 81 = .ok (.iload_n 1, 1) := by decide +kernel
theorem dX8_layWays_82 : decode cX8_layWays 82 = .ok (.ishl, 1) := by decide +kernel
theorem dX8_layWays_83 : decode cX8_layWays 83 = .ok (.if_icmp .ge 15, 3) := by decide +kernel
theorem dX8_layWays_86 : decode cX8_layWays 86 = .ok (.aload_n 0, 1) := by decide +kernel
theorem dX8_layWays_87 : decode cX8_layWays 87 = .ok (.iload_n 2, 1) := by decide +kernel
theorem dX8_layWays_88 : decode cX8_layWays 88 = .ok (.iload_n 1, 1) := by decide +kernel
theorem dX8_layWays_89 : decode cX8_layWays 89 = .ok (.invokevirtual 272, 3) := by decide +kernel
theorem dX8_layWays_92 : decode cX8_layWays 92 = .ok (.iinc 2 1, 3) := by decide +kernel
theorem dX8_layWays_95 : decode cX8_layWays 95 = .ok (.goto (-16), 3) := by decide +kernel
theorem dX8_layWays_98 : decode cX8_layWays 98 = .ok (.aload_n 0, 1) := by decide +kernel
theorem dX8_layWays_99 : decode cX8_layWays 99 = .ok (.iload_n 1, 1) := by decide +kernel
theorem dX8_layWays_100 : decode cX8_layWays 100 = .ok (.invokestatic 260, 3) := by decide +kernel
theorem dX8_layWays_103 : decode cX8_layWays 103 = .ok (.putfield 275, 3) := by decide +kernel
theorem dX8_layWays_106 : decode cX8_layWays 106 = .ok (.aload_n 0, 1) := by decide +kernel
theorem dX8_layWays_107 : decode cX8_layWays 107 = .ok (.invokevirtual 254, 3) := by decide +kernel
theorem dX8_layWays_110 : decode cX8_layWays 110 = .ok (.return_, 1) := by decide +kernel
theorem dX8_layOdds_0 : decode cX8_layOdds 0 = .ok (.aload_n 0, 1) := by decide +kernel
theorem dX8_layOdds_1 : decode cX8_layOdds 1 = .ok (.getfield 208, 3) := by decide +kernel
theorem dX8_layOdds_4 : decode cX8_layOdds 4 = .ok (.ifCond .eq 26, 3) := by decide +kernel
theorem dX8_layOdds_7 : decode cX8_layOdds 7 = .ok (.aload_n 0, 1) := by decide +kernel
theorem dX8_layOdds_8 : decode cX8_layOdds 8 = .ok (.aload_n 0, 1) := by decide +kernel
theorem dX8_layOdds_9 : decode cX8_layOdds 9 = .ok (.invokevirtual 264, 3) := by decide +kernel
theorem dX8_layOdds_12 : decode cX8_layOdds 12 = .ok (.iload_n 1, 1) := by decide +kernel
theorem dX8_layOdds_13 : decode cX8_layOdds 13 = .ok (.if_icmp .ne 7, 3) := by decide +kernel
theorem dX8_layOdds_16 : decode cX8_layOdds 16 = .ok (.lconst 1, 1) := by decide +kernel
theorem dX8_layOdds_17 : decode cX8_layOdds 17 = .ok (.goto 4, 3) := by decide +kernel
theorem dX8_layOdds_20 : decode cX8_layOdds 20 = .ok (.lconst 0, 1) := by decide +kernel
theorem dX8_layOdds_21 : decode cX8_layOdds 21 = .ok (.putfield 278, 3) := by decide +kernel
theorem dX8_layOdds_24 : decode cX8_layOdds 24 = .ok (.aload_n 0, 1) := by decide +kernel
theorem dX8_layOdds_25 : decode cX8_layOdds 25 = .ok (.lconst 1, 1) := by decide +kernel
theorem dX8_layOdds_26 : decode cX8_layOdds 26 = .ok (.putfield 281, 3) := by decide +kernel
theorem dX8_layOdds_29 : decode cX8_layOdds 29 = .ok (.return_, 1) := by decide +kernel
theorem dX8_layOdds_30 : decode cX8_layOdds 30 = .ok (.aload_n 0, 1) := by decide +kernel
theorem dX8_layOdds_31 : decode cX8_layOdds 31 = .ok (.invokevirtual 284, 3) := by decide +kernel
theorem dX8_layOdds_34 : decode cX8_layOdds 34 = .ok (.aload_n 0, 1) := by decide +kernel
theorem dX8_layOdds_35 : decode cX8_layOdds 35 = .ok (.invokevirtual 190, 3) := by decide +kernel
theorem dX8_layOdds_38 : decode cX8_layOdds 38 = .ok (.istore_n 2, 1) := by decide +kernel
theorem dX8_layOdds_39 : decode cX8_layOdds 39 = .ok (.aload_n 0, 1) := by decide +kernel
theorem dX8_layOdds_40 : decode cX8_layOdds 40 = .ok (.getfield 202, 3) := by decide +kernel
theorem dX8_layOdds_43 : decode cX8_layOdds 43 = .ok (.iconst 2, 1) := by decide +kernel
theorem dX8_layOdds_44 : decode cX8_layOdds 44 = .ok (.iload_n 2, 1) := by decide +kernel
theorem dX8_layOdds_45 : decode cX8_layOdds 45 = .ok (.imul, 1) := by decide +kernel
theorem dX8_layOdds_46 : decode cX8_layOdds 46 = .ok (.if_icmp .ge 52, 3) := by decide +kernel
theorem dX8_layOdds_49 : decode cX8_layOdds 49 = .ok (.aload_n 0, 1) := by decide +kernel
theorem dX8_layOdds_50 : decode cX8_layOdds 50 = .ok (.invokevirtual 287, 3) := by decide +kernel
theorem dX8_layOdds_53 : decode cX8_layOdds 53 = .ok (.aload_n 0, 1) := by decide +kernel
theorem dX8_layOdds_54 : decode cX8_layOdds 54 = .ok (.aload_n 0, 1) := by decide +kernel
theorem dX8_layOdds_55 : decode cX8_layOdds 55 = .ok (.getfield 48, 3) := by decide +kernel
theorem dX8_layOdds_58 : decode cX8_layOdds 58 = .ok (.iload_n 1, 1) := by decide +kernel
theorem dX8_layOdds_59 : decode cX8_layOdds 59 = .ok (.laload, 1) := by decide +kernel
theorem dX8_layOdds_60 : decode cX8_layOdds 60 = .ok (.aload_n 0, 1) := by decide +kernel
theorem dX8_layOdds_61 : decode cX8_layOdds 61 = .ok (.getfield 245, 3) := by decide +kernel
theorem dX8_layOdds_64 : decode cX8_layOdds 64 = .ok (.lmul, 1) := by decide +kernel
theorem dX8_layOdds_65 : decode cX8_layOdds 65 = .ok (.aload_n 0, 1) := by decide +kernel
theorem dX8_layOdds_66 : decode cX8_layOdds 66 = .ok (.getfield 266, 3) := by decide +kernel
theorem dX8_layOdds_69 : decode cX8_layOdds 69 = .ok (.aload_n 0, 1) := by decide +kernel
theorem dX8_layOdds_70 : decode cX8_layOdds 70 = .ok (.getfield 44, 3) := by decide +kernel
theorem dX8_layOdds_73 : decode cX8_layOdds 73 = .ok (.iconst 5, 1) := by decide +kernel
theorem dX8_layOdds_74 : decode cX8_layOdds 74 = .ok (.iload_n 1, 1) := by decide +kernel
theorem dX8_layOdds_75 : decode cX8_layOdds 75 = .ok (.imul, 1) := by decide +kernel
theorem dX8_layOdds_76 : decode cX8_layOdds 76 = .ok (.laload, 1) := by decide +kernel
theorem dX8_layOdds_77 : decode cX8_layOdds 77 = .ok (.lmul, 1) := by decide +kernel
theorem dX8_layOdds_78 : decode cX8_layOdds 78 = .ok (.ladd, 1) := by decide +kernel
theorem dX8_layOdds_79 : decode cX8_layOdds 79 = .ok (.putfield 278, 3) := by decide +kernel
theorem dX8_layOdds_82 : decode cX8_layOdds 82 = .ok (.aload_n 0, 1) := by decide +kernel
theorem dX8_layOdds_83 : decode cX8_layOdds 83 = .ok (.aload_n 0, 1) := by decide +kernel
theorem dX8_layOdds_84 : decode cX8_layOdds 84 = .ok (.getfield 275, 3) := by decide +kernel
theorem dX8_layOdds_87 : decode cX8_layOdds 87 = .ok (.aload_n 0, 1) := by decide +kernel
theorem dX8_layOdds_88 : decode cX8_layOdds 88 = .ok (.getfield 245, 3) := by decide +kernel
theorem dX8_layOdds_91 : decode cX8_layOdds 91 = .ok (.lmul, 1) := by decide +kernel
theorem dX8_layOdds_92 : decode cX8_layOdds 92 = .ok (.putfield 281, 3) := by decide +kernel
theorem dX8_layOdds_95 : decode cX8_layOdds 95 = .ok (.goto 172, 3) := by decide +kernel
theorem dX8_layOdds_98 : decode cX8_layOdds 98 = .ok (.aload_n 0, 1) := by decide +kernel
theorem dX8_layOdds_99 : decode cX8_layOdds 99 = .ok (.getfield 202, 3) := by decide +kernel
theorem dX8_layOdds_102 : decode cX8_layOdds 102 = .ok (.iconst 2, 1) := by decide +kernel
theorem dX8_layOdds_103 : decode cX8_layOdds 103 = .ok (.irem, 1) := by decide +kernel
theorem dX8_layOdds_104 : decode cX8_layOdds 104 = .ok (.ifCond .ne 35, 3) := by decide +kernel
theorem dX8_layOdds_107 : decode cX8_layOdds 107 = .ok (.aload_n 0, 1) := by decide +kernel
theorem dX8_layOdds_108 : decode cX8_layOdds 108 = .ok (.aload_n 0, 1) := by decide +kernel
theorem dX8_layOdds_109 : decode cX8_layOdds 109 = .ok (.getfield 44, 3) := by decide +kernel
theorem dX8_layOdds_112 : decode cX8_layOdds 112 = .ok (.iconst 5, 1) := by decide +kernel
theorem dX8_layOdds_113 : decode cX8_layOdds 113 = .ok (.iload_n 1, 1) := by decide +kernel
theorem dX8_layOdds_114 : decode cX8_layOdds 114 = .ok (.imul, 1) := by decide +kernel
theorem dX8_layOdds_115 : decode cX8_layOdds 115 = .ok (.aload_n 0, 1) := by decide +kernel
theorem dX8_layOdds_116 : decode cX8_layOdds 116 = .ok (.getfield 202, 3) := by decide +kernel
theorem dX8_layOdds_119 : decode cX8_layOdds 119 = .ok (.iconst 2, 1) := by decide +kernel
theorem dX8_layOdds_120 : decode cX8_layOdds 120 = .ok (.idiv, 1) := by decide +kernel
theorem dX8_layOdds_121 : decode cX8_layOdds 121 = .ok (.iload_n 2, 1) := by decide +kernel
theorem dX8_layOdds_122 : decode cX8_layOdds 122 = .ok (.irem, 1) := by decide +kernel
theorem dX8_layOdds_123 : decode cX8_layOdds 123 = .ok (.iadd, 1) := by decide +kernel
theorem dX8_layOdds_124 : decode cX8_layOdds 124 = .ok (.laload, 1) := by decide +kernel
theorem dX8_layOdds_125 : decode cX8_layOdds 125 = .ok (.putfield 278, 3) := by decide +kernel
theorem dX8_layOdds_128 : decode cX8_layOdds 128 = .ok (.aload_n 0, 1) := by decide +kernel
theorem dX8_layOdds_129 : decode cX8_layOdds 129 = .ok (.aload_n 0, 1) := by decide +kernel
theorem dX8_layOdds_130 : decode cX8_layOdds 130 = .ok (.getfield 245, 3) := by decide +kernel
theorem dX8_layOdds_133 : decode cX8_layOdds 133 = .ok (.putfield 281, 3) := by decide +kernel
theorem dX8_layOdds_136 : decode cX8_layOdds 136 = .ok (.goto 131, 3) := by decide +kernel
theorem dX8_layOdds_139 : decode cX8_layOdds 139 = .ok (.aload_n 0, 1) := by decide +kernel
theorem dX8_layOdds_140 : decode cX8_layOdds 140 = .ok (.getfield 44, 3) := by decide +kernel
theorem dX8_layOdds_143 : decode cX8_layOdds 143 = .ok (.iconst 5, 1) := by decide +kernel
theorem dX8_layOdds_144 : decode cX8_layOdds 144 = .ok (.iload_n 1, 1) := by decide +kernel
theorem dX8_layOdds_145 : decode cX8_layOdds 145 = .ok (.imul, 1) := by decide +kernel
theorem dX8_layOdds_146 : decode cX8_layOdds 146 = .ok (.aload_n 0, 1) := by decide +kernel
theorem dX8_layOdds_147 : decode cX8_layOdds 147 = .ok (.getfield 202, 3) := by decide +kernel
theorem dX8_layOdds_150 : decode cX8_layOdds 150 = .ok (.iconst 2, 1) := by decide +kernel
theorem dX8_layOdds_151 : decode cX8_layOdds 151 = .ok (.idiv, 1) := by decide +kernel
theorem dX8_layOdds_152 : decode cX8_layOdds 152 = .ok (.iconst 1, 1) := by decide +kernel
theorem dX8_layOdds_153 : decode cX8_layOdds 153 = .ok (.iadd, 1) := by decide +kernel
theorem dX8_layOdds_154 : decode cX8_layOdds 154 = .ok (.iload_n 2, 1) := by decide +kernel
theorem dX8_layOdds_155 : decode cX8_layOdds 155 = .ok (.irem, 1) := by decide +kernel
theorem dX8_layOdds_156 : decode cX8_layOdds 156 = .ok (.iadd, 1) := by decide +kernel
theorem dX8_layOdds_157 : decode cX8_layOdds 157 = .ok (.laload, 1) := by decide +kernel
theorem dX8_layOdds_158 : decode cX8_layOdds 158 = .ok (.lstore_n 3, 1) := by decide +kernel
theorem dX8_layOdds_159 : decode cX8_layOdds 159 = .ok (.aload_n 0, 1) := by decide +kernel
theorem dX8_layOdds_160 : decode cX8_layOdds 160 = .ok (.invokevirtual 257, 3) := by decide +kernel
theorem dX8_layOdds_163 : decode cX8_layOdds 163 = .ok (.istore 5, 2) := by decide +kernel
theorem dX8_layOdds_165 : decode cX8_layOdds 165 = .ok (.aload_n 0, 1) := by decide +kernel
theorem dX8_layOdds_166 : decode cX8_layOdds 166 = .ok (.getfield 38, 3) := by decide +kernel
theorem dX8_layOdds_169 : decode cX8_layOdds 169 = .ok (.iconst 0, 1) := by decide +kernel
theorem dX8_layOdds_170 : decode cX8_layOdds 170 = .ok (.iaload, 1) := by decide +kernel
theorem dX8_layOdds_171 : decode cX8_layOdds 171 = .ok (.aload_n 0, 1) := by decide +kernel
theorem dX8_layOdds_172 : decode cX8_layOdds 172 = .ok (.getfield 38, 3) := by decide +kernel
theorem dX8_layOdds_175 : decode cX8_layOdds 175 = .ok (.iconst 1, 1) := by decide +kernel
theorem dX8_layOdds_176 : decode cX8_layOdds 176 = .ok (.iaload, 1) := by decide +kernel
theorem dX8_layOdds_177 : decode cX8_layOdds 177 = .ok (.if_icmp .eq 7, 3) := by decide +kernel
theorem dX8_layOdds_180 : decode cX8_layOdds 180 = .ok (.iconst 1, 1) := by decide +kernel
theorem dX8_layOdds_181 : decode cX8_layOdds 181 = .ok (.goto 4, 3) := by decide +kernel
theorem dX8_layOdds_184 : decode cX8_layOdds 184 = .ok (.iconst 0, 1) := by decide +kernel
theorem dX8_layOdds_185 : decode cX8_layOdds 185 = .ok (.istore 6, 2) := by decide +kernel
theorem dX8_layOdds_187 : decode cX8_layOdds 187 = .ok (.iload 6, 2) := by decide +kernel
theorem dX8_layOdds_189 : decode cX8_layOdds 189 = .ok (.ifCond .eq 10, 3) := by decide +kernel
theorem dX8_layOdds_192 : decode cX8_layOdds 192 = .ok (.aload_n 0, 1) := by decide +kernel
theorem dX8_layOdds_193 : decode cX8_layOdds 193 = .ok (.getfield 196, 3) := by decide +kernel
theorem dX8_layOdds_196 : decode cX8_layOdds 196 = .ok (.goto 9, 3) := by decide +kernel
theorem dX8_layOdds_199 : decode cX8_layOdds 199 = .ok (.iconst 1, 1) := by decide +kernel
theorem dX8_layOdds_200 : decode cX8_layOdds 200 = .ok (.aload_n 0, 1) := by decide +kernel
theorem dX8_layOdds_201 : decode cX8_layOdds 201 = .ok (.getfield 196, 3) := by decide +kernel
theorem dX8_layOdds_204 : decode cX8_layOdds 204 = .ok (.isub, 1) := by decide +kernel
theorem dX8_layOdds_205 : decode cX8_layOdds 205 = .ok (.istore 7, 2) := by decide +kernel
theorem dX8_layOdds_207 : decode cX8_layOdds 207 = .ok (.iload 6, 2) := by decide +kernel
theorem dX8_layOdds_209 : decode cX8_layOdds 209 = .ok (.ifCond .eq 8, 3) := by decide +kernel
theorem dX8_layOdds_212 : decode cX8_layOdds 212 = .ok (.iload 5, 2) := by decide +kernel
theorem dX8_layOdds_214 : decode cX8_layOdds 214 = .ok (.goto 8, 3) := by decide +kernel
theorem dX8_layOdds_217 : decode cX8_layOdds 217 = .ok (.bipush 6, 2) := by decide +kernel
theorem dX8_layOdds_219 : decode cX8_layOdds 219 = .ok (.iload 5, 2) := by decide +kernel
theorem dX8_layOdds_221 : decode cX8_layOdds 221 = .ok (.isub, 1) := by decide +kernel
theorem dX8_layOdds_222 : decode cX8_layOdds 222 = .ok (.istore 8, 2) := by decide +kernel
theorem dX8_layOdds_224 : decode cX8_layOdds 224 = .ok (.aload_n 0, 1) := by decide +kernel
theorem dX8_layOdds_225 : decode cX8_layOdds 225 = .ok (.iload 8, 2) := by decide +kernel
theorem dX8_layOdds_227 : decode cX8_layOdds 227 = .ok (.i2l, 1) := by decide +kernel
theorem dX8_layOdds_228 : decode cX8_layOdds 228 = .ok (.lload_n 3, 1) := by decide +kernel
theorem dX8_layOdds_229 : decode cX8_layOdds 229 = .ok (.lmul, 1) := by decide +kernel
theorem dX8_layOdds_230 : decode cX8_layOdds 230 = .ok (.iload 7, 2) := by decide +kernel
theorem dX8_layOdds_232 : decode cX8_layOdds 232 = .ok (.iload_n 1, 1) := by decide +kernel
theorem dX8_layOdds_233 : decode cX8_layOdds 233 = .ok (.if_icmp .ne 17, 3) := by decide +kernel
theorem dX8_layOdds_236 : decode cX8_layOdds 236 = .ok (.bipush 6, 2) := by decide +kernel
theorem dX8_layOdds_238 : decode cX8_layOdds 238 = .ok (.iload 8, 2) := by decide +kernel
theorem dX8_layOdds_240 : decode cX8_layOdds 240 = .ok (.isub, 1) := by decide +kernel
theorem dX8_layOdds_241 : decode cX8_layOdds 241 = .ok (.i2l, 1) := by decide +kernel
theorem dX8_layOdds_242 : decode cX8_layOdds 242 = .ok (.aload_n 0, 1) := by decide +kernel
theorem dX8_layOdds_243 : decode cX8_layOdds 243 = .ok (.getfield 245, 3) := by decide +kernel
theorem dX8_layOdds_246 : decode cX8_layOdds 246 = .ok (.lmul, 1) := by decide +kernel
theorem dX8_layOdds_247 : decode cX8_layOdds 247 = .ok (.goto 4, 3) := by decide +kernel
theorem dX8_layOdds_250 : decode cX8_layOdds 250 = .ok (.lconst 0, 1) := by decide +kernel
theorem dX8_layOdds_251 : decode cX8_layOdds 251 = .ok (.ladd, 1) := by decide +kernel
theorem dX8_layOdds_252 : decode cX8_layOdds 252 = .ok (.putfield 278, 3) := by decide +kernel
theorem dX8_layOdds_255 : decode cX8_layOdds 255 = .ok (.aload_n 0, 1) := by decide +kernel
theorem dX8_layOdds_256 : decode cX8_layOdds 256 = .ok (.ldc2_w 252, 3) := by decide +kernel
theorem dX8_layOdds_259 : decode cX8_layOdds 259 = .ok (.aload_n 0, 1) := by decide +kernel
theorem dX8_layOdds_260 : decode cX8_layOdds 260 = .ok (.getfield 245, 3) := by decide +kernel
theorem dX8_layOdds_263 : decode cX8_layOdds 263 = .ok (.lmul, 1) := by decide +kernel
theorem dX8_layOdds_264 : decode cX8_layOdds 264 = .ok (.putfield 281, 3) := by decide +kernel
theorem dX8_layOdds_267 : decode cX8_layOdds 267 = .ok (.return_, 1) := by decide +kernel
theorem dX8_common_0 : decode cX8_common 0 = .ok (.lload_n 0, 1) := by decide +kernel
theorem dX8_common_1 : decode cX8_common 1 = .ok (.lconst 0, 1) := by decide +kernel
theorem dX8_common_2 : decode cX8_common 2 = .ok (.lcmp, 1) := by decide +kernel
theorem dX8_common_3 : decode cX8_common 3 = .ok (.ifCond .ge 8, 3) := by decide +kernel
theorem dX8_common_6 : decode cX8_common 6 = .ok (.lload_n 0, 1) := by decide +kernel
theorem dX8_common_7 : decode cX8_common 7 = .ok (.lneg, 1) := by decide +kernel
theorem dX8_common_8 : decode cX8_common 8 = .ok (.goto 4, 3) := by decide +kernel
theorem dX8_common_11 : decode cX8_common 11 = .ok (.lload_n 0, 1) := by decide +kernel
theorem dX8_common_12 : decode cX8_common 12 = .ok (.lstore 4, 2) := by decide +kernel
theorem dX8_common_14 : decode cX8_common 14 = .ok (.lload_n 2, 1) := by decide +kernel
theorem dX8_common_15 : decode cX8_common 15 = .ok (.lstore 6, 2) := by decide +kernel
theorem dX8_common_17 : decode cX8_common 17 = .ok (.lload 6, 2) := by decide +kernel
theorem dX8_common_19 : decode cX8_common 19 = .ok (.lconst 0, 1) := by decide +kernel
theorem dX8_common_20 : decode cX8_common 20 = .ok (.lcmp, 1) := by decide +kernel
theorem dX8_common_21 : decode cX8_common 21 = .ok (.ifCond .eq 21, 3) := by decide +kernel
theorem dX8_common_24 : decode cX8_common 24 = .ok (.lload 4, 2) := by decide +kernel
theorem dX8_common_26 : decode cX8_common 26 = .ok (.lload 6, 2) := by decide +kernel
theorem dX8_common_28 : decode cX8_common 28 = .ok (.lrem, 1) := by decide +kernel
theorem dX8_common_29 : decode cX8_common 29 = .ok (.lstore 8, 2) := by decide +kernel
theorem dX8_common_31 : decode cX8_common 31 = .ok (.lload 6, 2) := by decide +kernel
theorem dX8_common_33 : decode cX8_common 33 = .ok (.lstore 4, 2) := by decide +kernel
theorem dX8_common_35 : decode cX8_common 35 = .ok (.lload 8, 2) := by decide +kernel
theorem dX8_common_37 : decode cX8_common 37 = .ok (.lstore 6, 2) := by decide +kernel
theorem dX8_common_39 : decode cX8_common 39 = .ok (.goto (-22), 3) := by decide +kernel
theorem dX8_common_42 : decode cX8_common 42 = .ok (.lload 4, 2) := by decide +kernel
theorem dX8_common_44 : decode cX8_common 44 = .ok (.lreturn, 1) := by decide +kernel
theorem dX8_told_0 : decode cX8_told 0 = .ok (.lload_n 0, 1) := by decide +kernel
theorem dX8_told_1 : decode cX8_told 1 = .ok (.lload_n 2, 1) := by decide +kernel
theorem dX8_told_2 : decode cX8_told 2 = .ok (.invokestatic 290, 3) := by decide +kernel
theorem dX8_told_5 : decode cX8_told 5 = .ok (.lstore 5, 2) := by decide +kernel
theorem dX8_told_7 : decode cX8_told 7 = .ok (.iload 4, 2) := by decide +kernel
theorem dX8_told_9 : decode cX8_told 9 = .ok (.ifCond .ne 10, 3) := by decide +kernel
theorem dX8_told_12 : decode cX8_told 12 = .ok (.lload_n 0, 1) := by decide +kernel
theorem dX8_told_13 : decode cX8_told 13 = .ok (.lload 5, 2) := by decide +kernel
theorem dX8_told_15 : decode cX8_told 15 = .ok (.ldiv, 1) := by decide +kernel
theorem dX8_told_16 : decode cX8_told 16 = .ok (.goto 7, 3) := by decide +kernel
theorem dX8_told_19 : decode cX8_told 19 = .ok (.lload_n 2, 1) := by decide +kernel
theorem dX8_told_20 : decode cX8_told 20 = .ok (.lload 5, 2) := by decide +kernel
theorem dX8_told_22 : decode cX8_told 22 = .ok (.ldiv, 1) := by decide +kernel
theorem dX8_told_23 : decode cX8_told 23 = .ok (.lreturn, 1) := by decide +kernel
theorem dX8_against_0 : decode cX8_against 0 = .ok (.lload_n 0, 1) := by decide +kernel
theorem dX8_against_1 : decode cX8_against 1 = .ok (.lstore 8, 2) := by decide +kernel
theorem dX8_against_3 : decode cX8_against 3 = .ok (.lload_n 2, 1) := by decide +kernel
theorem dX8_against_4 : decode cX8_against 4 = .ok (.lstore 10, 2) := by decide +kernel
theorem dX8_against_6 : decode cX8_against 6 = .ok (.lload 4, 2) := by decide +kernel
theorem dX8_against_8 : decode cX8_against 8 = .ok (.lstore 12, 2) := by decide +kernel
theorem dX8_against_10 : decode cX8_against 10 = .ok (.lload 6, 2) := by decide +kernel
theorem dX8_against_12 : decode cX8_against 12 = .ok (.lstore 14, 2) := by decide +kernel
theorem dX8_against_14 : decode cX8_against 14 = .ok (.iconst 1, 1) := by decide +kernel
theorem dX8_against_15 : decode cX8_against 15 = .ok (.istore 16, 2) := by decide +kernel
theorem dX8_against_17 : decode cX8_against 17 = .ok (.lload 8, 2) := by decide +kernel
theorem dX8_against_19 : decode cX8_against 19 = .ok (.lload 10, 2) := by decide +kernel
theorem dX8_against_21 : decode cX8_against 21 = .ok (.ldiv, 1) := by decide +kernel
theorem dX8_against_22 : decode cX8_against 22 = .ok (.lstore 17, 2) := by decide +kernel
theorem dX8_against_24 : decode cX8_against 24 = .ok (.lload 12, 2) := by decide +kernel
theorem dX8_against_26 : decode cX8_against 26 = .ok (.lload 14, 2) := by decide +kernel
theorem dX8_against_28 : decode cX8_against 28 = .ok (.ldiv, 1) := by decide +kernel
theorem dX8_against_29 : decode cX8_against 29 = .ok (.lstore 19, 2) := by decide +kernel
theorem dX8_against_31 : decode cX8_against 31 = .ok (.lload 17, 2) := by decide +kernel
theorem dX8_against_33 : decode cX8_against 33 = .ok (.lload 19, 2) := by decide +kernel
theorem dX8_against_35 : decode cX8_against 35 = .ok (.lcmp, 1) := by decide +kernel
theorem dX8_against_36 : decode cX8_against 36 = .ok (.ifCond .eq 20, 3) := by decide +kernel
theorem dX8_against_39 : decode cX8_against 39 = .ok (.lload 17, 2) := by decide +kernel
theorem dX8_against_41 : decode cX8_against 41 = .ok (.lload 19, 2) := by decide +kernel
theorem dX8_against_43 : decode cX8_against 43 = .ok (.lcmp, 1) := by decide +kernel
theorem dX8_against_44 : decode cX8_against 44 = .ok (.ifCond .ge 9, 3) := by decide +kernel
theorem dX8_against_47 : decode cX8_against 47 = .ok (.iload 16, 2) := by decide +kernel
theorem dX8_against_49 : decode cX8_against 49 = .ok (.ineg, 1) := by decide +kernel
theorem dX8_against_50 : decode cX8_against 50 = .ok (.goto 5, 3) := by decide +kernel
theorem dX8_against_53 : decode cX8_against 53 = .ok (.iload 16, 2) := by decide +kernel
theorem dX8_against_55 : decode cX8_against 55 = .ok (.ireturn, 1) := by decide +kernel
theorem dX8_against_56 : decode cX8_against 56 = .ok (.lload 8, 2) := by decide +kernel
theorem dX8_against_58 : decode cX8_against 58 = .ok (.lload 10, 2) := by decide +kernel
theorem dX8_against_60 : decode cX8_against 60 = .ok (.lrem, 1) := by decide +kernel
theorem dX8_against_61 : decode cX8_against 61 = .ok (.lstore 21, 2) := by decide +kernel
theorem dX8_against_63 : decode cX8_against 63 = .ok (.lload 12, 2) := by decide +kernel
theorem dX8_against_65 : decode cX8_against 65 = .ok (.lload 14, 2) := by decide +kernel
theorem dX8_against_67 : decode cX8_against 67 = .ok (.lrem, 1) := by decide +kernel
theorem dX8_against_68 : decode cX8_against 68 = .ok (.lstore 23, 2) := by decide +kernel
theorem dX8_against_70 : decode cX8_against 70 = .ok (.lload 21, 2) := by decide +kernel
theorem dX8_against_72 : decode cX8_against 72 = .ok (.lconst 0, 1) := by decide +kernel
theorem dX8_against_73 : decode cX8_against 73 = .ok (.lcmp, 1) := by decide +kernel
theorem dX8_against_74 : decode cX8_against 74 = .ok (.ifCond .eq 10, 3) := by decide +kernel
theorem dX8_against_77 : decode cX8_against 77 = .ok (.lload 23, 2) := by decide +kernel
theorem dX8_against_79 : decode cX8_against 79 = .ok (.lconst 0, 1) := by decide +kernel
theorem dX8_against_80 : decode cX8_against 80 = .ok (.lcmp, 1) := by decide +kernel
theorem dX8_against_81 : decode cX8_against 81 = .ok (.ifCond .ne 31, 3) := by decide +kernel
theorem dX8_against_84 : decode cX8_against 84 = .ok (.lload 21, 2) := by decide +kernel
theorem dX8_against_86 : decode cX8_against 86 = .ok (.lload 23, 2) := by decide +kernel
theorem dX8_against_88 : decode cX8_against 88 = .ok (.lcmp, 1) := by decide +kernel
theorem dX8_against_89 : decode cX8_against 89 = .ok (.ifCond .ne 7, 3) := by decide +kernel
theorem dX8_against_92 : decode cX8_against 92 = .ok (.iconst 0, 1) := by decide +kernel
theorem dX8_against_93 : decode cX8_against 93 = .ok (.goto 18, 3) := by decide +kernel
theorem dX8_against_96 : decode cX8_against 96 = .ok (.lload 21, 2) := by decide +kernel
theorem dX8_against_98 : decode cX8_against 98 = .ok (.lconst 0, 1) := by decide +kernel
theorem dX8_against_99 : decode cX8_against 99 = .ok (.lcmp, 1) := by decide +kernel
theorem dX8_against_100 : decode cX8_against 100 = .ok (.ifCond .ne 9, 3) := by decide +kernel
theorem dX8_against_103 : decode cX8_against 103 = .ok (.iload 16, 2) := by decide +kernel
theorem dX8_against_105 : decode cX8_against 105 = .ok (.ineg, 1) := by decide +kernel
theorem dX8_against_106 : decode cX8_against 106 = .ok (.goto 5, 3) := by decide +kernel
theorem dX8_against_109 : decode cX8_against 109 = .ok (.iload 16, 2) := by decide +kernel
theorem dX8_against_111 : decode cX8_against 111 = .ok (.ireturn, 1) := by decide +kernel
theorem dX8_against_112 : decode cX8_against 112 = .ok (.lload 10, 2) := by decide +kernel
theorem dX8_against_114 : decode cX8_against 114 = .ok (.lstore 8, 2) := by decide +kernel
theorem dX8_against_116 : decode cX8_against 116 = .ok (.lload 21, 2) := by decide +kernel
theorem dX8_against_118 : decode cX8_against 118 = .ok (.lstore 10, 2) := by decide +kernel
theorem dX8_against_120 : decode cX8_against 120 = .ok (.lload 14, 2) := by decide +kernel
theorem dX8_against_122 : decode cX8_against 122 = .ok (.lstore 12, 2) := by decide +kernel
theorem dX8_against_124 : decode cX8_against 124 = .ok (.lload 23, 2) := by decide +kernel
theorem dX8_against_126 : decode cX8_against 126 = .ok (.lstore 14, 2) := by decide +kernel
theorem dX8_against_128 : decode cX8_against 128 = .ok (.iload 16, 2) := by decide +kernel
theorem dX8_against_130 : decode cX8_against 130 = .ok (.ineg, 1) := by decide +kernel
theorem dX8_against_131 : decode cX8_against 131 = .ok (.istore 16, 2) := by decide +kernel
theorem dX8_against_133 : decode cX8_against 133 = .ok (.goto (-116), 3) := by decide +kernel
theorem dX8_side_0 : decode cX8_side 0 = .ok (.aload_n 0, 1) := by decide +kernel
theorem dX8_side_1 : decode cX8_side 1 = .ok (.iconst 0, 1) := by decide +kernel
theorem dX8_side_2 : decode cX8_side 2 = .ok (.putfield 75, 3) := by decide +kernel
theorem dX8_side_5 : decode cX8_side 5 = .ok (.aload_n 0, 1) := by decide +kernel
theorem dX8_side_6 : decode cX8_side 6 = .ok (.iload_n 1, 1) := by decide +kernel
theorem dX8_side_7 : decode cX8_side 7 = .ok (.invokevirtual 294, 3) := by decide +kernel
theorem dX8_side_10 : decode cX8_side 10 = .ok (.ifCond .ne 7, 3) := by decide +kernel
theorem dX8_side_13 : decode cX8_side 13 = .ok (.ldc_w 297, 3) := by decide +kernel
theorem dX8_side_16 : decode cX8_side 16 = .ok (.ireturn, 1) := by decide +kernel
theorem dX8_side_17 : decode cX8_side 17 = .ok (.iload_n 2, 1) := by decide +kernel
theorem dX8_side_18 : decode cX8_side 18 = .ok (.i2l, 1) := by decide +kernel
theorem dX8_side_19 : decode cX8_side 19 = .ok (.ldc2_w 298, 3) := by decide +kernel
theorem dX8_side_22 : decode cX8_side 22 = .ok (.ldc2_w 300, 3) := by decide +kernel
theorem dX8_side_25 : decode cX8_side 25 = .ok (.aload_n 0, 1) := by decide +kernel
theorem dX8_side_26 : decode cX8_side 26 = .ok (.invokevirtual 190, 3) := by decide +kernel
theorem dX8_side_29 : decode cX8_side 29 = .ok (.i2l, 1) := by decide +kernel
theorem dX8_side_30 : decode cX8_side 30 = .ok (.ladd, 1) := by decide +kernel
theorem dX8_side_31 : decode cX8_side 31 = .ok (.invokestatic 79, 3) := by decide +kernel
theorem dX8_side_34 : decode cX8_side 34 = .ok (.ifCond .eq 20, 3) := by decide +kernel
theorem dX8_side_37 : decode cX8_side 37 = .ok (.aload_n 0, 1) := by decide +kernel
theorem dX8_side_38 : decode cX8_side 38 = .ok (.getfield 9, 3) := by decide +kernel
theorem dX8_side_41 : decode cX8_side 41 = .ok (.bipush 8, 2) := by decide +kernel
theorem dX8_side_43 : decode cX8_side 43 = .ok (.iconst 5, 1) := by decide +kernel
theorem dX8_side_44 : decode cX8_side 44 = .ok (.iload_n 1, 1) := by decide +kernel
theorem dX8_side_45 : decode cX8_side 45 = .ok (.imul, 1) := by decide +kernel
theorem dX8_side_46 : decode cX8_side 46 = .ok (.iadd, 1) := by decide +kernel
theorem dX8_side_47 : decode cX8_side 47 = .ok (.iload_n 2, 1) := by decide +kernel
theorem dX8_side_48 : decode cX8_side 48 = .ok (.iadd, 1) := by decide +kernel
theorem dX8_side_49 : decode cX8_side 49 = .ok (.bipush 10, 2) := by decide +kernel
theorem dX8_side_51 : decode cX8_side 51 = .ok (.isub, 1) := by decide +kernel
theorem dX8_side_52 : decode cX8_side 52 = .ok (.iaload, 1) := by decide +kernel
theorem dX8_side_53 : decode cX8_side 53 = .ok (.ireturn, 1) := by decide +kernel
theorem dX8_side_54 : decode cX8_side 54 = .ok (.aload_n 0, 1) := by decide +kernel
theorem dX8_side_55 : decode cX8_side 55 = .ok (.invokevirtual 302, 3) := by decide +kernel
theorem dX8_side_58 : decode cX8_side 58 = .ok (.iload_n 2, 1) := by decide +kernel
theorem dX8_side_59 : decode cX8_side 59 = .ok (.tableswitch 62 0 3 #[29, 38, 48, 55], 29) := by decide +kernel
theorem dX8_side_88 : decode cX8_side 88 = .ok (.aload_n 0, 1) := by decide +kernel
theorem dX8_side_89 : decode cX8_side 89 = .ok (.getfield 9, 3) := by decide +kernel
theorem dX8_side_92 : decode cX8_side 92 = .ok (.iconst 4, 1) := by decide +kernel
theorem dX8_side_93 : decode cX8_side 93 = .ok (.iload_n 1, 1) := by decide +kernel
theorem dX8_side_94 : decode cX8_side 94 = .ok (.iadd, 1) := by decide +kernel
theorem dX8_side_95 : decode cX8_side 95 = .ok (.iaload, 1) := by decide +kernel
theorem dX8_side_96 : decode cX8_side 96 = .ok (.ireturn, 1) := by decide +kernel
theorem dX8_side_97 : decode cX8_side 97 = .ok (.aload_n 0, 1) := by decide +kernel
theorem dX8_side_98 : decode cX8_side 98 = .ok (.getfield 9, 3) := by decide +kernel
theorem dX8_side_101 : decode cX8_side 101 = .ok (.bipush 6, 2) := by decide +kernel
theorem dX8_side_103 : decode cX8_side 103 = .ok (.iload_n 1, 1) := by decide +kernel
theorem dX8_side_104 : decode cX8_side 104 = .ok (.iadd, 1) := by decide +kernel
theorem dX8_side_105 : decode cX8_side 105 = .ok (.iaload, 1) := by decide +kernel
theorem dX8_side_106 : decode cX8_side 106 = .ok (.ireturn, 1) := by decide +kernel
theorem dX8_side_107 : decode cX8_side 107 = .ok (.aload_n 0, 1) := by decide +kernel
theorem dX8_side_108 : decode cX8_side 108 = .ok (.getfield 38, 3) := by decide +kernel
theorem dX8_side_111 : decode cX8_side 111 = .ok (.iload_n 1, 1) := by decide +kernel
theorem dX8_side_112 : decode cX8_side 112 = .ok (.iaload, 1) := by decide +kernel
theorem dX8_side_113 : decode cX8_side 113 = .ok (.ireturn, 1) := by decide +kernel
theorem dX8_side_114 : decode cX8_side 114 = .ok (.aload_n 0, 1) := by decide +kernel
theorem dX8_side_115 : decode cX8_side 115 = .ok (.getfield 41, 3) := by decide +kernel
theorem dX8_side_118 : decode cX8_side 118 = .ok (.iload_n 1, 1) := by decide +kernel
theorem dX8_side_119 : decode cX8_side 119 = .ok (.iaload, 1) := by decide +kernel
theorem dX8_side_120 : decode cX8_side 120 = .ok (.ireturn, 1) := by decide +kernel
theorem dX8_side_121 : decode cX8_side 121 = .ok (.ldc_w 297, 3) := by decide +kernel
theorem dX8_side_124 : decode cX8_side 124 = .ok (.ireturn, 1) := by decide +kernel
theorem dX8_make_0 : decode cX8_make 0 = .ok (.aload_n 0, 1) := by decide +kernel
theorem dX8_make_1 : decode cX8_make 1 = .ok (.getfield 9, 3) := by decide +kernel
theorem dX8_make_4 : decode cX8_make 4 = .ok (.bipush 18, 2) := by decide +kernel
theorem dX8_make_6 : decode cX8_make 6 = .ok (.aload_n 0, 1) := by decide +kernel
theorem dX8_make_7 : decode cX8_make 7 = .ok (.getfield 9, 3) := by decide +kernel
theorem dX8_make_10 : decode cX8_make 10 = .ok (.iconst 3, 1) := by decide +kernel
theorem dX8_make_11 : decode cX8_make 11 = .ok (.iaload, 1) := by decide +kernel
theorem dX8_make_12 : decode cX8_make 12 = .ok (.iadd, 1) := by decide +kernel
theorem dX8_make_13 : decode cX8_make 13 = .ok (.iload_n 1, 1) := by decide +kernel
theorem dX8_make_14 : decode cX8_make 14 = .ok (.iastore, 1) := by decide +kernel
theorem dX8_make_15 : decode cX8_make 15 = .ok (.aload_n 0, 1) := by decide +kernel
theorem dX8_make_16 : decode cX8_make 16 = .ok (.getfield 9, 3) := by decide +kernel
theorem dX8_make_19 : decode cX8_make 19 = .ok (.iconst 3, 1) := by decide +kernel
theorem dX8_make_20 : decode cX8_make 20 = .ok (.dup2, 1) := by decide +kernel
theorem dX8_make_21 : decode cX8_make 21 = .ok (.iaload, 1) := by decide +kernel
theorem dX8_make_22 : decode cX8_make 22 = .ok (.iconst 1, 1) := by decide +kernel
theorem dX8_make_23 : decode cX8_make 23 = .ok (.iadd, 1) := by decide +kernel
theorem dX8_make_24 : decode cX8_make 24 = .ok (.iastore, 1) := by decide +kernel
theorem dX8_make_25 : decode cX8_make 25 = .ok (.aload_n 0, 1) := by decide +kernel
theorem dX8_make_26 : decode cX8_make 26 = .ok (.iload_n 1, 1) := by decide +kernel
theorem dX8_make_27 : decode cX8_make 27 = .ok (.invokevirtual 214, 3) := by decide +kernel
theorem dX8_make_30 : decode cX8_make 30 = .ok (.return_, 1) := by decide +kernel
theorem dX8_kick_0 : decode cX8_kick 0 = .ok (.aload_n 0, 1) := by decide +kernel
theorem dX8_kick_1 : decode cX8_kick 1 = .ok (.iconst 0, 1) := by decide +kernel
theorem dX8_kick_2 : decode cX8_kick 2 = .ok (.putfield 75, 3) := by decide +kernel
theorem dX8_kick_5 : decode cX8_kick 5 = .ok (.aload_n 0, 1) := by decide +kernel
theorem dX8_kick_6 : decode cX8_kick 6 = .ok (.invokevirtual 83, 3) := by decide +kernel
theorem dX8_kick_9 : decode cX8_kick 9 = .ok (.ifCond .ne 6, 3) := by decide +kernel
theorem dX8_kick_12 : decode cX8_kick 12 = .ok (.bipush (-2), 2) := by decide +kernel
theorem dX8_kick_14 : decode cX8_kick 14 = .ok (.ireturn, 1) := by decide +kernel
theorem dX8_kick_15 : decode cX8_kick 15 = .ok (.aload_n 0, 1) := by decide +kernel
theorem dX8_kick_16 : decode cX8_kick 16 = .ok (.invokevirtual 302, 3) := by decide +kernel
theorem dX8_kick_19 : decode cX8_kick 19 = .ok (.aload_n 0, 1) := by decide +kernel
theorem dX8_kick_20 : decode cX8_kick 20 = .ok (.getfield 208, 3) := by decide +kernel
theorem dX8_kick_23 : decode cX8_kick 23 = .ok (.ifCond .ne 12, 3) := by decide +kernel
theorem dX8_kick_26 : decode cX8_kick 26 = .ok (.aload_n 0, 1) := by decide +kernel
theorem dX8_kick_27 : decode cX8_kick 27 = .ok (.getfield 202, 3) := by decide +kernel
theorem dX8_kick_30 : decode cX8_kick 30 = .ok (.bipush 60, 2) := by decide +kernel
theorem dX8_kick_32 : decode cX8_kick 32 = .ok (.if_icmp .ne 6, 3) := by decide +kernel
theorem dX8_kick_35 : decode cX8_kick 35 = .ok (.bipush (-3), 2) := by decide +kernel
theorem dX8_kick_37 : decode cX8_kick 37 = .ok (.ireturn, 1) := by decide +kernel
theorem dX8_kick_38 : decode cX8_kick 38 = .ok (.aload_n 0, 1) := by decide +kernel
theorem dX8_kick_39 : decode cX8_kick 39 = .ok (.invokevirtual 305, 3) := by decide +kernel
theorem dX8_kick_42 : decode cX8_kick 42 = .ok (.aload_n 0, 1) := by decide +kernel
theorem dX8_kick_43 : decode cX8_kick 43 = .ok (.invokevirtual 223, 3) := by decide +kernel
theorem dX8_kick_46 : decode cX8_kick 46 = .ok (.istore_n 2, 1) := by decide +kernel
theorem dX8_kick_47 : decode cX8_kick 47 = .ok (.aload_n 0, 1) := by decide +kernel
theorem dX8_kick_48 : decode cX8_kick 48 = .ok (.iload_n 1, 1) := by decide +kernel
theorem dX8_kick_49 : decode cX8_kick 49 = .ok (.ifCond .eq 7, 3) := by decide +kernel
theorem dX8_kick_52 : decode cX8_kick 52 = .ok (.iconst 1, 1) := by decide +kernel
theorem dX8_kick_53 : decode cX8_kick 53 = .ok (.goto 4, 3) := by decide +kernel
theorem dX8_kick_56 : decode cX8_kick 56 = .ok (.iconst 0, 1) := by decide +kernel
theorem dX8_kick_57 : decode cX8_kick 57 = .ok (.invokevirtual 308, 3) := by decide +kernel
theorem dX8_kick_60 : decode cX8_kick 60 = .ok (.aload_n 0, 1) := by decide +kernel
theorem dX8_kick_61 : decode cX8_kick 61 = .ok (.getfield 38, 3) := by decide +kernel
theorem dX8_kick_64 : decode cX8_kick 64 = .ok (.iload_n 2, 1) := by decide +kernel
theorem dX8_kick_65 : decode cX8_kick 65 = .ok (.iaload, 1) := by decide +kernel
theorem dX8_kick_66 : decode cX8_kick 66 = .ok (.ireturn, 1) := by decide +kernel
theorem dX8_strange_0 : decode cX8_strange 0 = .ok (.iconst 0, 1) := by decide +kernel
theorem dX8_strange_1 : decode cX8_strange 1 = .ok (.istore_n 1, 1) := by decide +kernel
theorem dX8_strange_2 : decode cX8_strange 2 = .ok (.iload_n 1, 1) := by decide +kernel
theorem dX8_strange_3 : decode cX8_strange 3 = .ok (.aload_n 0, 1) := by decide +kernel
theorem dX8_strange_4 : decode cX8_strange 4 = .ok (.getfield 94, 3) := by decide +kernel
theorem dX8_strange_7 : decode cX8_strange 7 = .ok (.if_icmp .ge 44, 3) := by decide +kernel
theorem dX8_strange_10 : decode cX8_strange 10 = .ok (.aload_n 0, 1) := by decide +kernel
theorem dX8_strange_11 : decode cX8_strange 11 = .ok (.getfield 25, 3) := by decide +kernel
theorem dX8_strange_14 : decode cX8_strange 14 = .ok (.iload_n 1, 1) := by decide +kernel
theorem dX8_strange_15 : decode cX8_strange 15 = .ok (.baload, 1) := by decide +kernel
theorem dX8_strange_16 : decode cX8_strange 16 = .ok (.bipush 120, 2) := by decide +kernel
theorem dX8_strange_18 : decode cX8_strange 18 = .ok (.if_icmp .eq 27, 3) := by decide +kernel
theorem dX8_strange_21 : decode cX8_strange 21 = .ok (.aload_n 0, 1) := by decide +kernel
theorem dX8_strange_22 : decode cX8_strange 22 = .ok (.getfield 25, 3) := by decide +kernel
theorem dX8_strange_25 : decode cX8_strange 25 = .ok (.iload_n 1, 1) := by decide +kernel
theorem dX8_strange_26 : decode cX8_strange 26 = .ok (.baload, 1) := by decide +kernel
theorem dX8_strange_27 : decode cX8_strange 27 = .ok (.bipush 111, 2) := by decide +kernel
theorem dX8_strange_29 : decode cX8_strange 29 = .ok (.if_icmp .eq 16, 3) := by decide +kernel
theorem dX8_strange_32 : decode cX8_strange 32 = .ok (.aload_n 0, 1) := by decide +kernel
theorem dX8_strange_33 : decode cX8_strange 33 = .ok (.getfield 25, 3) := by decide +kernel
theorem dX8_strange_36 : decode cX8_strange 36 = .ok (.iload_n 1, 1) := by decide +kernel
theorem dX8_strange_37 : decode cX8_strange 37 = .ok (.baload, 1) := by decide +kernel
theorem dX8_strange_38 : decode cX8_strange 38 = .ok (.bipush 32, 2) := by decide +kernel
theorem dX8_strange_40 : decode cX8_strange 40 = .ok (.if_icmp .eq 5, 3) := by decide +kernel
theorem dX8_strange_43 : decode cX8_strange 43 = .ok (.iload_n 1, 1) := by decide +kernel
theorem dX8_strange_44 : decode cX8_strange 44 = .ok (.ireturn, 1) := by decide +kernel
theorem dX8_strange_45 : decode cX8_strange 45 = .ok (.iinc 1 1, 3) := by decide +kernel
theorem dX8_strange_48 : decode cX8_strange 48 = .ok (.goto (-46), 3) := by decide +kernel
theorem dX8_strange_51 : decode cX8_strange 51 = .ok (.iconst (-1), 1) := by decide +kernel
theorem dX8_strange_52 : decode cX8_strange 52 = .ok (.ireturn, 1) := by decide +kernel
theorem dX8_goText_0 : decode cX8_goText 0 = .ok (.aload_n 0, 1) := by decide +kernel
theorem dX8_goText_1 : decode cX8_goText 1 = .ok (.iconst 0, 1) := by decide +kernel
theorem dX8_goText_2 : decode cX8_goText 2 = .ok (.putfield 311, 3) := by decide +kernel
theorem dX8_goText_5 : decode cX8_goText 5 = .ok (.iconst 0, 1) := by decide +kernel
theorem dX8_goText_6 : decode cX8_goText 6 = .ok (.istore_n 2, 1) := by decide +kernel
theorem dX8_goText_7 : decode cX8_goText 7 = .ok (.iload_n 2, 1) := by decide +kernel
theorem dX8_goText_8 : decode cX8_goText 8 = .ok (.aload_n 0, 1) := by decide +kernel
theorem dX8_goText_9 : decode cX8_goText 9 = .ok (.getfield 94, 3) := by decide +kernel
theorem dX8_goText_12 : decode cX8_goText 12 = .ok (.if_icmp .ge 110, 3) := by decide +kernel
theorem dX8_goText_15 : decode cX8_goText 15 = .ok (.aload_n 0, 1) := by decide +kernel
theorem dX8_goText_16 : decode cX8_goText 16 = .ok (.getfield 25, 3) := by decide +kernel
theorem dX8_goText_19 : decode cX8_goText 19 = .ok (.iload_n 2, 1) := by decide +kernel
theorem dX8_goText_20 : decode cX8_goText 20 = .ok (.baload, 1) := by decide +kernel
theorem dX8_goText_21 : decode cX8_goText 21 = .ok (.bipush 32, 2) := by decide +kernel
theorem dX8_goText_23 : decode cX8_goText 23 = .ok (.if_icmp .eq 93, 3) := by decide +kernel
theorem dX8_goText_26 : decode cX8_goText 26 = .ok (.aload_n 0, 1) := by decide +kernel
theorem dX8_goText_27 : decode cX8_goText 27 = .ok (.getfield 208, 3) := by decide +kernel
theorem dX8_goText_30 : decode cX8_goText 30 = .ok (.ifCond .ne 12, 3) := by decide +kernel
theorem dX8_goText_33 : decode cX8_goText 33 = .ok (.aload_n 0, 1) := by decide +kernel
theorem dX8_goText_34 : decode cX8_goText 34 = .ok (.getfield 202, 3) := by decide +kernel
theorem dX8_goText_37 : decode cX8_goText 37 = .ok (.bipush 60, 2) := by decide +kernel
theorem dX8_goText_39 : decode cX8_goText 39 = .ok (.if_icmp .ne 5, 3) := by decide +kernel
theorem dX8_goText_42 : decode cX8_goText 42 = .ok (.iload_n 2, 1) := by decide +kernel
theorem dX8_goText_43 : decode cX8_goText 43 = .ok (.ireturn, 1) := by decide +kernel
theorem dX8_goText_44 : decode cX8_goText 44 = .ok (.iload_n 1, 1) := by decide +kernel
theorem dX8_goText_45 : decode cX8_goText 45 = .ok (.ifCond .eq 14, 3) := by decide +kernel
theorem dX8_goText_48 : decode cX8_goText 48 = .ok (.aload_n 0, 1) := by decide +kernel
theorem dX8_goText_49 : decode cX8_goText 49 = .ok (.getfield 311, 3) := by decide +kernel
theorem dX8_goText_52 : decode cX8_goText 52 = .ok (.ifCond .ne 7, 3) := by decide +kernel
theorem dX8_goText_55 : decode cX8_goText 55 = .ok (.aload_n 0, 1) := by decide +kernel
theorem dX8_goText_56 : decode cX8_goText 56 = .ok (.invokevirtual 305, 3) := by decide +kernel
theorem dX8_goText_59 : decode cX8_goText 59 = .ok (.iload_n 1, 1) := by decide +kernel
theorem dX8_goText_60 : decode cX8_goText 60 = .ok (.ifCond .eq 26, 3) := by decide +kernel
theorem dX8_goText_63 : decode cX8_goText 63 = .ok (.aload_n 0, 1) := by decide +kernel
theorem dX8_goText_64 : decode cX8_goText 64 = .ok (.aload_n 0, 1) := by decide +kernel
theorem dX8_goText_65 : decode cX8_goText 65 = .ok (.getfield 25, 3) := by decide +kernel
theorem dX8_goText_68 : decode cX8_goText 68 = .ok (.iload_n 2, 1) := by decide +kernel
theorem dX8_goText_69 : decode cX8_goText 69 = .ok (.baload, 1) := by decide +kernel
theorem dX8_goText_70 : decode cX8_goText 70 = .ok (.bipush 120, 2) := by decide +kernel
theorem dX8_goText_72 : decode cX8_goText 72 = .ok (.if_icmp .ne 7, 3) := by decide +kernel
theorem dX8_goText_75 : decode cX8_goText 75 = .ok (.iconst 1, 1) := by decide +kernel
theorem dX8_goText_76 : decode cX8_goText 76 = .ok (.goto 4, 3) := by decide +kernel
theorem dX8_goText_79 : decode cX8_goText 79 = .ok (.iconst 0, 1) := by decide +kernel
theorem dX8_goText_80 : decode cX8_goText 80 = .ok (.invokevirtual 308, 3) := by decide +kernel
theorem dX8_goText_83 : decode cX8_goText 83 = .ok (.goto 23, 3) := by decide +kernel
theorem dX8_goText_86 : decode cX8_goText 86 = .ok (.aload_n 0, 1) := by decide +kernel
theorem dX8_goText_87 : decode cX8_goText 87 = .ok (.aload_n 0, 1) := by decide +kernel
theorem dX8_goText_88 : decode cX8_goText 88 = .ok (.getfield 25, 3) := by decide +kernel
theorem dX8_goText_91 : decode cX8_goText 91 = .ok (.iload_n 2, 1) := by decide +kernel
theorem dX8_goText_92 : decode cX8_goText 92 = .ok (.baload, 1) := by decide +kernel
theorem dX8_goText_93 : decode cX8_goText 93 = .ok (.bipush 120, 2) := by decide +kernel
theorem dX8_goText_95 : decode cX8_goText 95 = .ok (.if_icmp .ne 7, 3) := by decide +kernel
theorem dX8_goText_98 : decode cX8_goText 98 = .ok (.iconst 1, 1) := by decide +kernel
theorem dX8_goText_99 : decode cX8_goText 99 = .ok (.goto 4, 3) := by decide +kernel
theorem dX8_goText_102 : decode cX8_goText 102 = .ok (.iconst 0, 1) := by decide +kernel
theorem dX8_goText_103 : decode cX8_goText 103 = .ok (.invokevirtual 214, 3) := by decide +kernel
theorem dX8_goText_106 : decode cX8_goText 106 = .ok (.aload_n 0, 1) := by decide +kernel
theorem dX8_goText_107 : decode cX8_goText 107 = .ok (.dup, 1) := by decide +kernel
theorem dX8_goText_108 : decode cX8_goText 108 = .ok (.getfield 311, 3) := by decide +kernel
theorem dX8_goText_111 : decode cX8_goText 111 = .ok (.iconst 1, 1) := by decide +kernel
theorem dX8_goText_112 : decode cX8_goText 112 = .ok (.iadd, 1) := by decide +kernel
theorem dX8_goText_113 : decode cX8_goText 113 = .ok (.putfield 311, 3) := by decide +kernel
theorem dX8_goText_116 : decode cX8_goText 116 = .ok (.iinc 2 1, 3) := by decide +kernel
theorem dX8_goText_119 : decode cX8_goText 119 = .ok (.goto (-112), 3) := by decide +kernel
theorem dX8_goText_122 : decode cX8_goText 122 = .ok (.iconst (-1), 1) := by decide +kernel
theorem dX8_goText_123 : decode cX8_goText 123 = .ok (.ireturn, 1) := by decide +kernel
theorem dX8_play_0 : decode cX8_play 0 = .ok (.aload_n 0, 1) := by decide +kernel
theorem dX8_play_1 : decode cX8_play 1 = .ok (.iconst 0, 1) := by decide +kernel
theorem dX8_play_2 : decode cX8_play 2 = .ok (.putfield 75, 3) := by decide +kernel
theorem dX8_play_5 : decode cX8_play 5 = .ok (.bipush (-2), 2) := by decide +kernel
theorem dX8_play_7 : decode cX8_play 7 = .ok (.istore_n 1, 1) := by decide +kernel
theorem dX8_play_8 : decode cX8_play 8 = .ok (.aload_n 0, 1) := by decide +kernel
theorem dX8_play_9 : decode cX8_play 9 = .ok (.invokevirtual 83, 3) := by decide +kernel
theorem dX8_play_12 : decode cX8_play 12 = .ok (.ifCond .eq 41, 3) := by decide +kernel
theorem dX8_play_15 : decode cX8_play 15 = .ok (.aload_n 0, 1) := by decide +kernel
theorem dX8_play_16 : decode cX8_play 16 = .ok (.invokevirtual 314, 3) := by decide +kernel
theorem dX8_play_19 : decode cX8_play 19 = .ok (.istore_n 2, 1) := by decide +kernel
theorem dX8_play_20 : decode cX8_play 20 = .ok (.iload_n 2, 1) := by decide +kernel
theorem dX8_play_21 : decode cX8_play 21 = .ok (.iconst (-1), 1) := by decide +kernel
theorem dX8_play_22 : decode cX8_play 22 = .ok (.if_icmp .ne 13, 3) := by decide +kernel
theorem dX8_play_25 : decode cX8_play 25 = .ok (.aload_n 0, 1) := by decide +kernel
theorem dX8_play_26 : decode cX8_play 26 = .ok (.invokevirtual 302, 3) := by decide +kernel
theorem dX8_play_29 : decode cX8_play 29 = .ok (.aload_n 0, 1) := by decide +kernel
theorem dX8_play_30 : decode cX8_play 30 = .ok (.iconst 1, 1) := by decide +kernel
theorem dX8_play_31 : decode cX8_play 31 = .ok (.invokevirtual 317, 3) := by decide +kernel
theorem dX8_play_34 : decode cX8_play 34 = .ok (.istore_n 2, 1) := by decide +kernel
theorem dX8_play_35 : decode cX8_play 35 = .ok (.iload_n 2, 1) := by decide +kernel
theorem dX8_play_36 : decode cX8_play 36 = .ok (.iconst (-1), 1) := by decide +kernel
theorem dX8_play_37 : decode cX8_play 37 = .ok (.if_icmp .ne 10, 3) := by decide +kernel
theorem dX8_play_40 : decode cX8_play 40 = .ok (.aload_n 0, 1) := by decide +kernel
theorem dX8_play_41 : decode cX8_play 41 = .ok (.getfield 311, 3) := by decide +kernel
theorem dX8_play_44 : decode cX8_play 44 = .ok (.goto 8, 3) := by decide +kernel
theorem dX8_play_47 : decode cX8_play 47 = .ok (.sipush (-1000), 3) := by decide +kernel
theorem dX8_play_50 : decode cX8_play 50 = .ok (.iload_n 2, 1) := by decide +kernel
theorem dX8_play_51 : decode cX8_play 51 = .ok (.isub, 1) := by decide +kernel
theorem dX8_play_52 : decode cX8_play 52 = .ok (.istore_n 1, 1) := by decide +kernel
theorem dX8_play_53 : decode cX8_play 53 = .ok (.aload_n 0, 1) := by decide +kernel
theorem dX8_play_54 : decode cX8_play 54 = .ok (.iconst 0, 1) := by decide +kernel
theorem dX8_play_55 : decode cX8_play 55 = .ok (.putfield 94, 3) := by decide +kernel
theorem dX8_play_58 : decode cX8_play 58 = .ok (.iload_n 1, 1) := by decide +kernel
theorem dX8_play_59 : decode cX8_play 59 = .ok (.ireturn, 1) := by decide +kernel
theorem dX8_judge_0 : decode cX8_judge 0 = .ok (.aload_n 0, 1) := by decide +kernel
theorem dX8_judge_1 : decode cX8_judge 1 = .ok (.iconst 0, 1) := by decide +kernel
theorem dX8_judge_2 : decode cX8_judge 2 = .ok (.putfield 75, 3) := by decide +kernel
theorem dX8_judge_5 : decode cX8_judge 5 = .ok (.aload_n 0, 1) := by decide +kernel
theorem dX8_judge_6 : decode cX8_judge 6 = .ok (.invokevirtual 83, 3) := by decide +kernel
theorem dX8_judge_9 : decode cX8_judge 9 = .ok (.ifCond .ne 11, 3) := by decide +kernel
theorem dX8_judge_12 : decode cX8_judge 12 = .ok (.aload_n 0, 1) := by decide +kernel
theorem dX8_judge_13 : decode cX8_judge 13 = .ok (.iconst 0, 1) := by decide +kernel
theorem dX8_judge_14 : decode cX8_judge 14 = .ok (.putfield 94, 3) := by decide +kernel
theorem dX8_judge_17 : decode cX8_judge 17 = .ok (.bipush (-2), 2) := by decide +kernel
theorem dX8_judge_19 : decode cX8_judge 19 = .ok (.ireturn, 1) := by decide +kernel
theorem dX8_judge_20 : decode cX8_judge 20 = .ok (.aload_n 0, 1) := by decide +kernel
theorem dX8_judge_21 : decode cX8_judge 21 = .ok (.invokevirtual 314, 3) := by decide +kernel
theorem dX8_judge_24 : decode cX8_judge 24 = .ok (.istore_n 1, 1) := by decide +kernel
theorem dX8_judge_25 : decode cX8_judge 25 = .ok (.iload_n 1, 1) := by decide +kernel
theorem dX8_judge_26 : decode cX8_judge 26 = .ok (.iconst (-1), 1) := by decide +kernel
theorem dX8_judge_27 : decode cX8_judge 27 = .ok (.if_icmp .ne 13, 3) := by decide +kernel
theorem dX8_judge_30 : decode cX8_judge 30 = .ok (.aload_n 0, 1) := by decide +kernel
theorem dX8_judge_31 : decode cX8_judge 31 = .ok (.invokevirtual 211, 3) := by decide +kernel
theorem dX8_judge_34 : decode cX8_judge 34 = .ok (.aload_n 0, 1) := by decide +kernel
theorem dX8_judge_35 : decode cX8_judge 35 = .ok (.iconst 0, 1) := by decide +kernel
theorem dX8_judge_36 : decode cX8_judge 36 = .ok (.invokevirtual 317, 3) := by decide +kernel
theorem dX8_judge_39 : decode cX8_judge 39 = .ok (.istore_n 1, 1) := by decide +kernel
theorem dX8_judge_40 : decode cX8_judge 40 = .ok (.aload_n 0, 1) := by decide +kernel
theorem dX8_judge_41 : decode cX8_judge 41 = .ok (.iconst 0, 1) := by decide +kernel
theorem dX8_judge_42 : decode cX8_judge 42 = .ok (.putfield 94, 3) := by decide +kernel
theorem dX8_judge_45 : decode cX8_judge 45 = .ok (.iload_n 1, 1) := by decide +kernel
theorem dX8_judge_46 : decode cX8_judge 46 = .ok (.iconst (-1), 1) := by decide +kernel
theorem dX8_judge_47 : decode cX8_judge 47 = .ok (.if_icmp .eq 9, 3) := by decide +kernel
theorem dX8_judge_50 : decode cX8_judge 50 = .ok (.sipush (-1000), 3) := by decide +kernel
theorem dX8_judge_53 : decode cX8_judge 53 = .ok (.iload_n 1, 1) := by decide +kernel
theorem dX8_judge_54 : decode cX8_judge 54 = .ok (.isub, 1) := by decide +kernel
theorem dX8_judge_55 : decode cX8_judge 55 = .ok (.ireturn, 1) := by decide +kernel
theorem dX8_judge_56 : decode cX8_judge 56 = .ok (.aload_n 0, 1) := by decide +kernel
theorem dX8_judge_57 : decode cX8_judge 57 = .ok (.iconst 1, 1) := by decide +kernel
theorem dX8_judge_58 : decode cX8_judge 58 = .ok (.putfield 321, 3) := by decide +kernel
theorem dX8_judge_61 : decode cX8_judge 61 = .ok (.aload_n 0, 1) := by decide +kernel
theorem dX8_judge_62 : decode cX8_judge 62 = .ok (.getfield 60, 3) := by decide +kernel
theorem dX8_judge_65 : decode cX8_judge 65 = .ok (.iconst 0, 1) := by decide +kernel
theorem dX8_judge_66 : decode cX8_judge 66 = .ok (.aload_n 0, 1) := by decide +kernel
theorem dX8_judge_67 : decode cX8_judge 67 = .ok (.getfield 38, 3) := by decide +kernel
theorem dX8_judge_70 : decode cX8_judge 70 = .ok (.iconst 0, 1) := by decide +kernel
theorem dX8_judge_71 : decode cX8_judge 71 = .ok (.iaload, 1) := by decide +kernel
theorem dX8_judge_72 : decode cX8_judge 72 = .ok (.iastore, 1) := by decide +kernel
theorem dX8_judge_73 : decode cX8_judge 73 = .ok (.aload_n 0, 1) := by decide +kernel
theorem dX8_judge_74 : decode cX8_judge 74 = .ok (.getfield 60, 3) := by decide +kernel
theorem dX8_judge_77 : decode cX8_judge 77 = .ok (.iconst 1, 1) := by decide +kernel
theorem dX8_judge_78 : decode cX8_judge 78 = .ok (.aload_n 0, 1) := by decide +kernel
theorem dX8_judge_79 : decode cX8_judge 79 = .ok (.getfield 38, 3) := by decide +kernel
theorem dX8_judge_82 : decode cX8_judge 82 = .ok (.iconst 1, 1) := by decide +kernel
theorem dX8_judge_83 : decode cX8_judge 83 = .ok (.iaload, 1) := by decide +kernel
theorem dX8_judge_84 : decode cX8_judge 84 = .ok (.iastore, 1) := by decide +kernel
theorem dX8_judge_85 : decode cX8_judge 85 = .ok (.aload_n 0, 1) := by decide +kernel
theorem dX8_judge_86 : decode cX8_judge 86 = .ok (.getfield 60, 3) := by decide +kernel
theorem dX8_judge_89 : decode cX8_judge 89 = .ok (.iconst 2, 1) := by decide +kernel
theorem dX8_judge_90 : decode cX8_judge 90 = .ok (.aload_n 0, 1) := by decide +kernel
theorem dX8_judge_91 : decode cX8_judge 91 = .ok (.getfield 208, 3) := by decide +kernel
theorem dX8_judge_94 : decode cX8_judge 94 = .ok (.ifCond .eq 7, 3) := by decide +kernel
theorem dX8_judge_97 : decode cX8_judge 97 = .ok (.iconst 1, 1) := by decide +kernel
theorem dX8_judge_98 : decode cX8_judge 98 = .ok (.goto 4, 3) := by decide +kernel
theorem dX8_judge_101 : decode cX8_judge 101 = .ok (.iconst 0, 1) := by decide +kernel
theorem dX8_judge_102 : decode cX8_judge 102 = .ok (.iastore, 1) := by decide +kernel
theorem dX8_judge_103 : decode cX8_judge 103 = .ok (.aload_n 0, 1) := by decide +kernel
theorem dX8_judge_104 : decode cX8_judge 104 = .ok (.getfield 60, 3) := by decide +kernel
theorem dX8_judge_107 : decode cX8_judge 107 = .ok (.iconst 3, 1) := by decide +kernel
theorem dX8_judge_108 : decode cX8_judge 108 = .ok (.aload_n 0, 1) := by decide +kernel
theorem dX8_judge_109 : decode cX8_judge 109 = .ok (.getfield 202, 3) := by decide +kernel
theorem dX8_judge_112 : decode cX8_judge 112 = .ok (.ifCond .ne 7, 3) := by decide +kernel
theorem dX8_judge_115 : decode cX8_judge 115 = .ok (.iconst (-1), 1) := by decide +kernel
theorem dX8_judge_116 : decode cX8_judge 116 = .ok (.goto 11, 3) := by decide +kernel
theorem dX8_judge_119 : decode cX8_judge 119 = .ok (.aload_n 0, 1) := by decide +kernel
theorem dX8_judge_120 : decode cX8_judge 120 = .ok (.getfield 202, 3) := by decide +kernel
theorem dX8_judge_123 : decode cX8_judge 123 = .ok (.iconst 1, 1) := by decide +kernel
theorem dX8_judge_124 : decode cX8_judge 124 = .ok (.isub, 1) := by decide +kernel
theorem dX8_judge_125 : decode cX8_judge 125 = .ok (.iconst 2, 1) := by decide +kernel
theorem dX8_judge_126 : decode cX8_judge 126 = .ok (.idiv, 1) := by decide +kernel
theorem dX8_judge_127 : decode cX8_judge 127 = .ok (.iastore, 1) := by decide +kernel
theorem dX8_judge_128 : decode cX8_judge 128 = .ok (.aload_n 0, 1) := by decide +kernel
theorem dX8_judge_129 : decode cX8_judge 129 = .ok (.getfield 311, 3) := by decide +kernel
theorem dX8_judge_132 : decode cX8_judge 132 = .ok (.ireturn, 1) := by decide +kernel
theorem dX8_judged_0 : decode cX8_judged 0 = .ok (.aload_n 0, 1) := by decide +kernel
theorem dX8_judged_1 : decode cX8_judged 1 = .ok (.iconst 0, 1) := by decide +kernel
theorem dX8_judged_2 : decode cX8_judged 2 = .ok (.putfield 75, 3) := by decide +kernel
theorem dX8_judged_5 : decode cX8_judged 5 = .ok (.aload_n 0, 1) := by decide +kernel
theorem dX8_judged_6 : decode cX8_judged 6 = .ok (.getfield 321, 3) := by decide +kernel
theorem dX8_judged_9 : decode cX8_judged 9 = .ok (.ifCond .eq 24, 3) := by decide +kernel
theorem dX8_judged_12 : decode cX8_judged 12 = .ok (.iload_n 1, 1) := by decide +kernel
theorem dX8_judged_13 : decode cX8_judged 13 = .ok (.i2l, 1) := by decide +kernel
theorem dX8_judged_14 : decode cX8_judged 14 = .ok (.lconst 0, 1) := by decide +kernel
theorem dX8_judged_15 : decode cX8_judged 15 = .ok (.ldc2_w 324, 3) := by decide +kernel
theorem dX8_judged_18 : decode cX8_judged 18 = .ok (.invokestatic 79, 3) := by decide +kernel
theorem dX8_judged_21 : decode cX8_judged 21 = .ok (.ifCond .eq 12, 3) := by decide +kernel
theorem dX8_judged_24 : decode cX8_judged 24 = .ok (.aload_n 0, 1) := by decide +kernel
theorem dX8_judged_25 : decode cX8_judged 25 = .ok (.getfield 60, 3) := by decide +kernel
theorem dX8_judged_28 : decode cX8_judged 28 = .ok (.iload_n 1, 1) := by decide +kernel
theorem dX8_judged_29 : decode cX8_judged 29 = .ok (.iaload, 1) := by decide +kernel
theorem dX8_judged_30 : decode cX8_judged 30 = .ok (.goto 4, 3) := by decide +kernel
theorem dX8_judged_33 : decode cX8_judged 33 = .ok (.iconst (-1), 1) := by decide +kernel
theorem dX8_judged_34 : decode cX8_judged 34 = .ok (.ireturn, 1) := by decide +kernel
theorem dX8_isShooter_0 : decode cX8_isShooter 0 = .ok (.iload_n 1, 1) := by decide +kernel
theorem dX8_isShooter_1 : decode cX8_isShooter 1 = .ok (.i2l, 1) := by decide +kernel
theorem dX8_isShooter_2 : decode cX8_isShooter 2 = .ok (.lconst 0, 1) := by decide +kernel
theorem dX8_isShooter_3 : decode cX8_isShooter 3 = .ok (.aload_n 0, 1) := by decide +kernel
theorem dX8_isShooter_4 : decode cX8_isShooter 4 = .ok (.invokevirtual 190, 3) := by decide +kernel
theorem dX8_isShooter_7 : decode cX8_isShooter 7 = .ok (.i2l, 1) := by decide +kernel
theorem dX8_isShooter_8 : decode cX8_isShooter 8 = .ok (.lconst 1, 1) := by decide +kernel
theorem dX8_isShooter_9 : decode cX8_isShooter 9 = .ok (.lsub, 1) := by decide +kernel
theorem dX8_isShooter_10 : decode cX8_isShooter 10 = .ok (.invokestatic 79, 3) := by decide +kernel
theorem dX8_isShooter_13 : decode cX8_isShooter 13 = .ok (.ireturn, 1) := by decide +kernel
theorem dX8_exchange_0 : decode cX8_exchange 0 = .ok (.aload_n 0, 1) := by decide +kernel
theorem dX8_exchange_1 : decode cX8_exchange 1 = .ok (.iconst 0, 1) := by decide +kernel
theorem dX8_exchange_2 : decode cX8_exchange 2 = .ok (.putfield 75, 3) := by decide +kernel
theorem dX8_exchange_5 : decode cX8_exchange 5 = .ok (.iload_n 2, 1) := by decide +kernel
theorem dX8_exchange_6 : decode cX8_exchange 6 = .ok (.iload_n 3, 1) := by decide +kernel
theorem dX8_exchange_7 : decode cX8_exchange 7 = .ok (.if_icmp .ne 5, 3) := by decide +kernel
theorem dX8_exchange_10 : decode cX8_exchange 10 = .ok (.iconst (-1), 1) := by decide +kernel
theorem dX8_exchange_11 : decode cX8_exchange 11 = .ok (.ireturn, 1) := by decide +kernel
theorem dX8_exchange_12 : decode cX8_exchange 12 = .ok (.aload_n 0, 1) := by decide +kernel
theorem dX8_exchange_13 : decode cX8_exchange 13 = .ok (.iload_n 1, 1) := by decide +kernel
theorem dX8_exchange_14 : decode cX8_exchange 14 = .ok (.invokevirtual 294, 3) := by decide +kernel
theorem dX8_exchange_17 : decode cX8_exchange 17 = .ok (.ifCond .eq 19, 3) := by decide +kernel
theorem dX8_exchange_20 : decode cX8_exchange 20 = .ok (.aload_n 0, 1) := by decide +kernel
theorem dX8_exchange_21 : decode cX8_exchange 21 = .ok (.iload_n 2, 1) := by decide +kernel
theorem dX8_exchange_22 : decode cX8_exchange 22 = .ok (.invokevirtual 326, 3) := by decide +kernel
theorem dX8_exchange_25 : decode cX8_exchange 25 = .ok (.ifCond .eq 11, 3) := by decide +kernel
theorem dX8_exchange_28 : decode cX8_exchange 28 = .ok (.aload_n 0, 1) := by decide +kernel
theorem dX8_exchange_29 : decode cX8_exchange 29 = .ok (.iload_n 3, 1) := by decide +kernel
theorem dX8_exchange_30 : decode cX8_exchange 30 = .ok (.invokevirtual 326, 3) := by decide +kernel
theorem dX8_exchange_33 : decode cX8_exchange 33 = .ok (.ifCond .ne 6, 3) := by decide +kernel
theorem dX8_exchange_36 : decode cX8_exchange 36 = .ok (.bipush (-2), 2) := by decide +kernel
theorem dX8_exchange_38 : decode cX8_exchange 38 = .ok (.ireturn, 1) := by decide +kernel
theorem dX8_exchange_39 : decode cX8_exchange 39 = .ok (.aload_n 0, 1) := by decide +kernel
theorem dX8_exchange_40 : decode cX8_exchange 40 = .ok (.getfield 9, 3) := by decide +kernel
theorem dX8_exchange_43 : decode cX8_exchange 43 = .ok (.iconst 3, 1) := by decide +kernel
theorem dX8_exchange_44 : decode cX8_exchange 44 = .ok (.iaload, 1) := by decide +kernel
theorem dX8_exchange_45 : decode cX8_exchange 45 = .ok (.ifCond .le 6, 3) := by decide +kernel
theorem dX8_exchange_48 : decode cX8_exchange 48 = .ok (.bipush (-3), 2) := by decide +kernel
theorem dX8_exchange_50 : decode cX8_exchange 50 = .ok (.ireturn, 1) := by decide +kernel
theorem dX8_exchange_51 : decode cX8_exchange 51 = .ok (.aload_n 0, 1) := by decide +kernel
theorem dX8_exchange_52 : decode cX8_exchange 52 = .ok (.invokevirtual 305, 3) := by decide +kernel
theorem dX8_exchange_55 : decode cX8_exchange 55 = .ok (.bipush 8, 2) := by decide +kernel
theorem dX8_exchange_57 : decode cX8_exchange 57 = .ok (.iconst 5, 1) := by decide +kernel
theorem dX8_exchange_58 : decode cX8_exchange 58 = .ok (.iload_n 1, 1) := by decide +kernel
theorem dX8_exchange_59 : decode cX8_exchange 59 = .ok (.imul, 1) := by decide +kernel
theorem dX8_exchange_60 : decode cX8_exchange 60 = .ok (.iadd, 1) := by decide +kernel
theorem dX8_exchange_61 : decode cX8_exchange 61 = .ok (.iload_n 2, 1) := by decide +kernel
theorem dX8_exchange_62 : decode cX8_exchange 62 = .ok (.iadd, 1) := by decide +kernel
theorem dX8_exchange_63 : decode cX8_exchange 63 = .ok (.istore 4, 2) := by decide +kernel
theorem dX8_exchange_65 : decode cX8_exchange 65 = .ok (.bipush 8, 2) := by decide +kernel
theorem dX8_exchange_67 : decode cX8_exchange 67 = .ok (.iconst 5, 1) := by decide +kernel
theorem dX8_exchange_68 : decode cX8_exchange 68 = .ok (.iload_n 1, 1) := by decide +kernel
theorem dX8_exchange_69 : decode cX8_exchange 69 = .ok (.imul, 1) := by decide +kernel
theorem dX8_exchange_70 : decode cX8_exchange 70 = .ok (.iadd, 1) := by decide +kernel
theorem dX8_exchange_71 : decode cX8_exchange 71 = .ok (.iload_n 3, 1) := by decide +kernel
theorem dX8_exchange_72 : decode cX8_exchange 72 = .ok (.iadd, 1) := by decide +kernel
theorem dX8_exchange_73 : decode cX8_exchange 73 = .ok (.istore 5, 2) := by decide +kernel
theorem dX8_exchange_75 : decode cX8_exchange 75 = .ok (.aload_n 0, 1) := by decide +kernel
theorem dX8_exchange_76 : decode cX8_exchange 76 = .ok (.getfield 9, 3) := by decide +kernel
theorem dX8_exchange_79 : decode cX8_exchange 79 = .ok (.iload 4, 2) := by decide +kernel
theorem dX8_exchange_81 : decode cX8_exchange 81 = .ok (.iaload, 1) := by decide +kernel
theorem dX8_exchange_82 : decode cX8_exchange 82 = .ok (.istore 6, 2) := by decide +kernel
theorem dX8_exchange_84 : decode cX8_exchange 84 = .ok (.aload_n 0, 1) := by decide +kernel
theorem dX8_exchange_85 : decode cX8_exchange 85 = .ok (.getfield 9, 3) := by decide +kernel
theorem dX8_exchange_88 : decode cX8_exchange 88 = .ok (.iload 4, 2) := by decide +kernel
theorem dX8_exchange_90 : decode cX8_exchange 90 = .ok (.aload_n 0, 1) := by decide +kernel
theorem dX8_exchange_91 : decode cX8_exchange 91 = .ok (.getfield 9, 3) := by decide +kernel
theorem dX8_exchange_94 : decode cX8_exchange 94 = .ok (.iload 5, 2) := by decide +kernel
theorem dX8_exchange_96 : decode cX8_exchange 96 = .ok (.iaload, 1) := by decide +kernel
theorem dX8_exchange_97 : decode cX8_exchange 97 = .ok (.iastore, 1) := by decide +kernel
theorem dX8_exchange_98 : decode cX8_exchange 98 = .ok (.aload_n 0, 1) := by decide +kernel
theorem dX8_exchange_99 : decode cX8_exchange 99 = .ok (.getfield 9, 3) := by decide +kernel
theorem dX8_exchange_102 : decode cX8_exchange 102 = .ok (.iload 5, 2) := by decide +kernel
theorem dX8_exchange_104 : decode cX8_exchange 104 = .ok (.iload 6, 2) := by decide +kernel
theorem dX8_exchange_106 : decode cX8_exchange 106 = .ok (.iastore, 1) := by decide +kernel
theorem dX8_exchange_107 : decode cX8_exchange 107 = .ok (.aload_n 0, 1) := by decide +kernel
theorem dX8_exchange_108 : decode cX8_exchange 108 = .ok (.getfield 9, 3) := by decide +kernel
theorem dX8_exchange_111 : decode cX8_exchange 111 = .ok (.iload 4, 2) := by decide +kernel
theorem dX8_exchange_113 : decode cX8_exchange 113 = .ok (.iaload, 1) := by decide +kernel
theorem dX8_exchange_114 : decode cX8_exchange 114 = .ok (.ireturn, 1) := by decide +kernel
theorem dX8_change_0 : decode cX8_change 0 = .ok (.aload_n 0, 1) := by decide +kernel
theorem dX8_change_1 : decode cX8_change 1 = .ok (.getfield 9, 3) := by decide +kernel
theorem dX8_change_4 : decode cX8_change 4 = .ok (.iconst 3, 1) := by decide +kernel
theorem dX8_change_5 : decode cX8_change 5 = .ok (.iaload, 1) := by decide +kernel
theorem dX8_change_6 : decode cX8_change 6 = .ok (.ifCond .le 6, 3) := by decide +kernel
theorem dX8_change_9 : decode cX8_change 9 = .ok (.bipush (-3), 2) := by decide +kernel
theorem dX8_change_11 : decode cX8_change 11 = .ok (.ireturn, 1) := by decide +kernel
theorem dX8_change_12 : decode cX8_change 12 = .ok (.aload_n 0, 1) := by decide +kernel
theorem dX8_change_13 : decode cX8_change 13 = .ok (.invokevirtual 305, 3) := by decide +kernel
theorem dX8_change_16 : decode cX8_change 16 = .ok (.aload_n 0, 1) := by decide +kernel
theorem dX8_change_17 : decode cX8_change 17 = .ok (.getfield 9, 3) := by decide +kernel
theorem dX8_change_20 : decode cX8_change 20 = .ok (.iload_n 1, 1) := by decide +kernel
theorem dX8_change_21 : decode cX8_change 21 = .ok (.iaload, 1) := by decide +kernel
theorem dX8_change_22 : decode cX8_change 22 = .ok (.istore_n 3, 1) := by decide +kernel
theorem dX8_change_23 : decode cX8_change 23 = .ok (.aload_n 0, 1) := by decide +kernel
theorem dX8_change_24 : decode cX8_change 24 = .ok (.getfield 9, 3) := by decide +kernel
theorem dX8_change_27 : decode cX8_change 27 = .ok (.iload_n 1, 1) := by decide +kernel
theorem dX8_change_28 : decode cX8_change 28 = .ok (.iload_n 2, 1) := by decide +kernel
theorem dX8_change_29 : decode cX8_change 29 = .ok (.iastore, 1) := by decide +kernel
theorem dX8_change_30 : decode cX8_change 30 = .ok (.iload_n 3, 1) := by decide +kernel
theorem dX8_change_31 : decode cX8_change 31 = .ok (.ireturn, 1) := by decide +kernel
theorem dX8_order_0 : decode cX8_order 0 = .ok (.aload_n 0, 1) := by decide +kernel
theorem dX8_order_1 : decode cX8_order 1 = .ok (.iconst 0, 1) := by decide +kernel
theorem dX8_order_2 : decode cX8_order 2 = .ok (.putfield 75, 3) := by decide +kernel
theorem dX8_order_5 : decode cX8_order 5 = .ok (.iload_n 1, 1) := by decide +kernel
theorem dX8_order_6 : decode cX8_order 6 = .ok (.i2l, 1) := by decide +kernel
theorem dX8_order_7 : decode cX8_order 7 = .ok (.lconst 0, 1) := by decide +kernel
theorem dX8_order_8 : decode cX8_order 8 = .ok (.ldc2_w 324, 3) := by decide +kernel
theorem dX8_order_11 : decode cX8_order 11 = .ok (.invokestatic 79, 3) := by decide +kernel
theorem dX8_order_14 : decode cX8_order 14 = .ok (.ifCond .ne 7, 3) := by decide +kernel
theorem dX8_order_17 : decode cX8_order 17 = .ok (.iconst (-1), 1) := by decide +kernel
theorem dX8_order_18 : decode cX8_order 18 = .ok (.goto 21, 3) := by decide +kernel
theorem dX8_order_21 : decode cX8_order 21 = .ok (.aload_n 0, 1) := by decide +kernel
theorem dX8_order_22 : decode cX8_order 22 = .ok (.invokevirtual 83, 3) := by decide +kernel
theorem dX8_order_25 : decode cX8_order 25 = .ok (.ifCond .ne 8, 3) := by decide +kernel
theorem dX8_order_28 : decode cX8_order 28 = .ok (.bipush (-2), 2) := by decide +kernel
theorem dX8_order_30 : decode cX8_order 30 = .ok (.goto 9, 3) := by decide +kernel
theorem dX8_order_33 : decode cX8_order 33 = .ok (.aload_n 0, 1) := by decide +kernel
theorem dX8_order_34 : decode cX8_order 34 = .ok (.iconst 1, 1) := by decide +kernel
theorem dX8_order_35 : decode cX8_order 35 = .ok (.iload_n 1, 1) := by decide +kernel
theorem dX8_order_36 : decode cX8_order 36 = .ok (.invokevirtual 329, 3) := by decide +kernel
theorem dX8_order_39 : decode cX8_order 39 = .ok (.ireturn, 1) := by decide +kernel
theorem dX8_first_0 : decode cX8_first 0 = .ok (.aload_n 0, 1) := by decide +kernel
theorem dX8_first_1 : decode cX8_first 1 = .ok (.iconst 0, 1) := by decide +kernel
theorem dX8_first_2 : decode cX8_first 2 = .ok (.putfield 75, 3) := by decide +kernel
theorem dX8_first_5 : decode cX8_first 5 = .ok (.aload_n 0, 1) := by decide +kernel
theorem dX8_first_6 : decode cX8_first 6 = .ok (.iload_n 1, 1) := by decide +kernel
theorem dX8_first_7 : decode cX8_first 7 = .ok (.invokevirtual 294, 3) := by decide +kernel
theorem dX8_first_10 : decode cX8_first 10 = .ok (.ifCond .ne 8, 3) := by decide +kernel
theorem dX8_first_13 : decode cX8_first 13 = .ok (.bipush (-2), 2) := by decide +kernel
theorem dX8_first_15 : decode cX8_first 15 = .ok (.goto 9, 3) := by decide +kernel
theorem dX8_first_18 : decode cX8_first 18 = .ok (.aload_n 0, 1) := by decide +kernel
theorem dX8_first_19 : decode cX8_first 19 = .ok (.iconst 2, 1) := by decide +kernel
theorem dX8_first_20 : decode cX8_first 20 = .ok (.iload_n 1, 1) := by decide +kernel
theorem dX8_first_21 : decode cX8_first 21 = .ok (.invokevirtual 329, 3) := by decide +kernel
theorem dX8_first_24 : decode cX8_first 24 = .ok (.ireturn, 1) := by decide +kernel
theorem dX8_turn_0 : decode cX8_turn 0 = .ok (.aload_n 0, 1) := by decide +kernel
theorem dX8_turn_1 : decode cX8_turn 1 = .ok (.iconst 0, 1) := by decide +kernel
theorem dX8_turn_2 : decode cX8_turn 2 = .ok (.putfield 75, 3) := by decide +kernel
theorem dX8_turn_5 : decode cX8_turn 5 = .ok (.aload_n 0, 1) := by decide +kernel
theorem dX8_turn_6 : decode cX8_turn 6 = .ok (.invokevirtual 83, 3) := by decide +kernel
theorem dX8_turn_9 : decode cX8_turn 9 = .ok (.ifCond .eq 15, 3) := by decide +kernel
theorem dX8_turn_12 : decode cX8_turn 12 = .ok (.iload_n 1, 1) := by decide +kernel
theorem dX8_turn_13 : decode cX8_turn 13 = .ok (.i2l, 1) := by decide +kernel
theorem dX8_turn_14 : decode cX8_turn 14 = .ok (.lconst 0, 1) := by decide +kernel
theorem dX8_turn_15 : decode cX8_turn 15 = .ok (.ldc2_w 324, 3) := by decide +kernel
theorem dX8_turn_18 : decode cX8_turn 18 = .ok (.invokestatic 79, 3) := by decide +kernel
theorem dX8_turn_21 : decode cX8_turn 21 = .ok (.ifCond .ne 5, 3) := by decide +kernel
theorem dX8_turn_24 : decode cX8_turn 24 = .ok (.iconst (-1), 1) := by decide +kernel
theorem dX8_turn_25 : decode cX8_turn 25 = .ok (.ireturn, 1) := by decide +kernel
theorem dX8_turn_26 : decode cX8_turn 26 = .ok (.aload_n 0, 1) := by decide +kernel
theorem dX8_turn_27 : decode cX8_turn 27 = .ok (.invokevirtual 302, 3) := by decide +kernel
theorem dX8_turn_30 : decode cX8_turn 30 = .ok (.aload_n 0, 1) := by decide +kernel
theorem dX8_turn_31 : decode cX8_turn 31 = .ok (.getfield 208, 3) := by decide +kernel
theorem dX8_turn_34 : decode cX8_turn 34 = .ok (.ifCond .eq 6, 3) := by decide +kernel
theorem dX8_turn_37 : decode cX8_turn 37 = .ok (.bipush (-2), 2) := by decide +kernel
theorem dX8_turn_39 : decode cX8_turn 39 = .ok (.ireturn, 1) := by decide +kernel
theorem dX8_turn_40 : decode cX8_turn 40 = .ok (.iload_n 1, 1) := by decide +kernel
theorem dX8_turn_41 : decode cX8_turn 41 = .ok (.ifCond .ne 10, 3) := by decide +kernel
theorem dX8_turn_44 : decode cX8_turn 44 = .ok (.aload_n 0, 1) := by decide +kernel
theorem dX8_turn_45 : decode cX8_turn 45 = .ok (.invokevirtual 223, 3) := by decide +kernel
theorem dX8_turn_48 : decode cX8_turn 48 = .ok (.goto 33, 3) := by decide +kernel
theorem dX8_turn_51 : decode cX8_turn 51 = .ok (.iload_n 1, 1) := by decide +kernel
theorem dX8_turn_52 : decode cX8_turn 52 = .ok (.iconst 1, 1) := by decide +kernel
theorem dX8_turn_53 : decode cX8_turn 53 = .ok (.if_icmp .ne 12, 3) := by decide +kernel
theorem dX8_turn_56 : decode cX8_turn 56 = .ok (.aload_n 0, 1) := by decide +kernel
theorem dX8_turn_57 : decode cX8_turn 57 = .ok (.getfield 202, 3) := by decide +kernel
theorem dX8_turn_60 : decode cX8_turn 60 = .ok (.iconst 2, 1) := by decide +kernel
theorem dX8_turn_61 : decode cX8_turn 61 = .ok (.idiv, 1) := by decide +kernel
theorem dX8_turn_62 : decode cX8_turn 62 = .ok (.goto 19, 3) := by decide +kernel
theorem dX8_turn_65 : decode cX8_turn 65 = .ok (.iload_n 1, 1) := by decide +kernel
theorem dX8_turn_66 : decode cX8_turn 66 = .ok (.iconst 2, 1) := by decide +kernel
theorem dX8_turn_67 : decode cX8_turn 67 = .ok (.if_icmp .ne 10, 3) := by decide +kernel
theorem dX8_turn_70 : decode cX8_turn 70 = .ok (.aload_n 0, 1) := by decide +kernel
theorem dX8_turn_71 : decode cX8_turn 71 = .ok (.invokevirtual 226, 3) := by decide +kernel
theorem dX8_turn_74 : decode cX8_turn 74 = .ok (.goto 7, 3) := by decide +kernel
theorem dX8_turn_77 : decode cX8_turn 77 = .ok (.aload_n 0, 1) := by decide +kernel
theorem dX8_turn_78 : decode cX8_turn 78 = .ok (.invokevirtual 257, 3) := by decide +kernel
theorem dX8_turn_81 : decode cX8_turn 81 = .ok (.ireturn, 1) := by decide +kernel
theorem dX8_odds_0 : decode cX8_odds 0 = .ok (.aload_n 0, 1) := by decide +kernel
theorem dX8_odds_1 : decode cX8_odds 1 = .ok (.iconst 0, 1) := by decide +kernel
theorem dX8_odds_2 : decode cX8_odds 2 = .ok (.putfield 75, 3) := by decide +kernel
theorem dX8_odds_5 : decode cX8_odds 5 = .ok (.aload_n 0, 1) := by decide +kernel
theorem dX8_odds_6 : decode cX8_odds 6 = .ok (.iload_n 1, 1) := by decide +kernel
theorem dX8_odds_7 : decode cX8_odds 7 = .ok (.invokevirtual 294, 3) := by decide +kernel
theorem dX8_odds_10 : decode cX8_odds 10 = .ok (.ifCond .eq 13, 3) := by decide +kernel
theorem dX8_odds_13 : decode cX8_odds 13 = .ok (.iload_n 2, 1) := by decide +kernel
theorem dX8_odds_14 : decode cX8_odds 14 = .ok (.i2l, 1) := by decide +kernel
theorem dX8_odds_15 : decode cX8_odds 15 = .ok (.lconst 0, 1) := by decide +kernel
theorem dX8_odds_16 : decode cX8_odds 16 = .ok (.lconst 1, 1) := by decide +kernel
theorem dX8_odds_17 : decode cX8_odds 17 = .ok (.invokestatic 79, 3) := by decide +kernel
theorem dX8_odds_20 : decode cX8_odds 20 = .ok (.ifCond .ne 7, 3) := by decide +kernel
theorem dX8_odds_23 : decode cX8_odds 23 = .ok (.ldc2_w 332, 3) := by decide +kernel
theorem dX8_odds_26 : decode cX8_odds 26 = .ok (.lreturn, 1) := by decide +kernel
theorem dX8_odds_27 : decode cX8_odds 27 = .ok (.aload_n 0, 1) := by decide +kernel
theorem dX8_odds_28 : decode cX8_odds 28 = .ok (.invokevirtual 302, 3) := by decide +kernel
theorem dX8_odds_31 : decode cX8_odds 31 = .ok (.aload_n 0, 1) := by decide +kernel
theorem dX8_odds_32 : decode cX8_odds 32 = .ok (.iload_n 1, 1) := by decide +kernel
theorem dX8_odds_33 : decode cX8_odds 33 = .ok (.invokevirtual 334, 3) := by decide +kernel
theorem dX8_odds_36 : decode cX8_odds 36 = .ok (.aload_n 0, 1) := by decide +kernel
theorem dX8_odds_37 : decode cX8_odds 37 = .ok (.getfield 278, 3) := by decide +kernel
theorem dX8_odds_40 : decode cX8_odds 40 = .ok (.aload_n 0, 1) := by decide +kernel
theorem dX8_odds_41 : decode cX8_odds 41 = .ok (.getfield 281, 3) := by decide +kernel
theorem dX8_odds_44 : decode cX8_odds 44 = .ok (.iload_n 2, 1) := by decide +kernel
theorem dX8_odds_45 : decode cX8_odds 45 = .ok (.invokestatic 337, 3) := by decide +kernel
theorem dX8_odds_48 : decode cX8_odds 48 = .ok (.lreturn, 1) := by decide +kernel
theorem dX8_matters_0 : decode cX8_matters 0 = .ok (.aload_n 0, 1) := by decide +kernel
theorem dX8_matters_1 : decode cX8_matters 1 = .ok (.iconst 0, 1) := by decide +kernel
theorem dX8_matters_2 : decode cX8_matters 2 = .ok (.putfield 75, 3) := by decide +kernel
theorem dX8_matters_5 : decode cX8_matters 5 = .ok (.aload_n 0, 1) := by decide +kernel
theorem dX8_matters_6 : decode cX8_matters 6 = .ok (.invokevirtual 83, 3) := by decide +kernel
theorem dX8_matters_9 : decode cX8_matters 9 = .ok (.ifCond .eq 13, 3) := by decide +kernel
theorem dX8_matters_12 : decode cX8_matters 12 = .ok (.iload_n 1, 1) := by decide +kernel
theorem dX8_matters_13 : decode cX8_matters 13 = .ok (.i2l, 1) := by decide +kernel
theorem dX8_matters_14 : decode cX8_matters 14 = .ok (.lconst 0, 1) := by decide +kernel
theorem dX8_matters_15 : decode cX8_matters 15 = .ok (.lconst 1, 1) := by decide +kernel
theorem dX8_matters_16 : decode cX8_matters 16 = .ok (.invokestatic 79, 3) := by decide +kernel
theorem dX8_matters_19 : decode cX8_matters 19 = .ok (.ifCond .ne 7, 3) := by decide +kernel
theorem dX8_matters_22 : decode cX8_matters 22 = .ok (.ldc2_w 341, 3) := by decide +kernel
theorem dX8_matters_25 : decode cX8_matters 25 = .ok (.lreturn, 1) := by decide +kernel
theorem dX8_matters_26 : decode cX8_matters 26 = .ok (.aload_n 0, 1) := by decide +kernel
theorem dX8_matters_27 : decode cX8_matters 27 = .ok (.invokevirtual 302, 3) := by decide +kernel
theorem dX8_matters_30 : decode cX8_matters 30 = .ok (.aload_n 0, 1) := by decide +kernel
theorem dX8_matters_31 : decode cX8_matters 31 = .ok (.getfield 208, 3) := by decide +kernel
theorem dX8_matters_34 : decode cX8_matters 34 = .ok (.ifCond .eq 7, 3) := by decide +kernel
theorem dX8_matters_37 : decode cX8_matters 37 = .ok (.ldc2_w 341, 3) := by decide +kernel
theorem dX8_matters_40 : decode cX8_matters 40 = .ok (.lreturn, 1) := by decide +kernel
theorem dX8_matters_41 : decode cX8_matters 41 = .ok (.aload_n 0, 1) := by decide +kernel
theorem dX8_matters_42 : decode cX8_matters 42 = .ok (.invokevirtual 223, 3) := by decide +kernel
theorem dX8_matters_45 : decode cX8_matters 45 = .ok (.istore_n 2, 1) := by decide +kernel
theorem dX8_matters_46 : decode cX8_matters 46 = .ok (.aload_n 0, 1) := by decide +kernel
theorem dX8_matters_47 : decode cX8_matters 47 = .ok (.iconst 1, 1) := by decide +kernel
theorem dX8_matters_48 : decode cX8_matters 48 = .ok (.invokevirtual 214, 3) := by decide +kernel
theorem dX8_matters_51 : decode cX8_matters 51 = .ok (.aload_n 0, 1) := by decide +kernel
theorem dX8_matters_52 : decode cX8_matters 52 = .ok (.iload_n 2, 1) := by decide +kernel
theorem dX8_matters_53 : decode cX8_matters 53 = .ok (.invokevirtual 334, 3) := by decide +kernel
theorem dX8_matters_56 : decode cX8_matters 56 = .ok (.aload_n 0, 1) := by decide +kernel
theorem dX8_matters_57 : decode cX8_matters 57 = .ok (.getfield 278, 3) := by decide +kernel
theorem dX8_matters_60 : decode cX8_matters 60 = .ok (.lstore_n 3, 1) := by decide +kernel
theorem dX8_matters_61 : decode cX8_matters 61 = .ok (.aload_n 0, 1) := by decide +kernel
theorem dX8_matters_62 : decode cX8_matters 62 = .ok (.getfield 281, 3) := by decide +kernel
theorem dX8_matters_65 : decode cX8_matters 65 = .ok (.lstore 5, 2) := by decide +kernel
theorem dX8_matters_67 : decode cX8_matters 67 = .ok (.aload_n 0, 1) := by decide +kernel
theorem dX8_matters_68 : decode cX8_matters 68 = .ok (.invokevirtual 302, 3) := by decide +kernel
theorem dX8_matters_71 : decode cX8_matters 71 = .ok (.aload_n 0, 1) := by decide +kernel
theorem dX8_matters_72 : decode cX8_matters 72 = .ok (.iconst 0, 1) := by decide +kernel
theorem dX8_matters_73 : decode cX8_matters 73 = .ok (.invokevirtual 214, 3) := by decide +kernel
theorem dX8_matters_76 : decode cX8_matters 76 = .ok (.aload_n 0, 1) := by decide +kernel
theorem dX8_matters_77 : decode cX8_matters 77 = .ok (.iload_n 2, 1) := by decide +kernel
theorem dX8_matters_78 : decode cX8_matters 78 = .ok (.invokevirtual 334, 3) := by decide +kernel
theorem dX8_matters_81 : decode cX8_matters 81 = .ok (.lload 5, 2) := by decide +kernel
theorem dX8_matters_83 : decode cX8_matters 83 = .ok (.aload_n 0, 1) := by decide +kernel
theorem dX8_matters_84 : decode cX8_matters 84 = .ok (.getfield 281, 3) := by decide +kernel
theorem dX8_matters_87 : decode cX8_matters 87 = .ok (.lcmp, 1) := by decide +kernel
theorem dX8_matters_88 : decode cX8_matters 88 = .ok (.ifCond .ne 18, 3) := by decide +kernel
theorem dX8_matters_91 : decode cX8_matters 91 = .ok (.lload_n 3, 1) := by decide +kernel
theorem dX8_matters_92 : decode cX8_matters 92 = .ok (.aload_n 0, 1) := by decide +kernel
theorem dX8_matters_93 : decode cX8_matters 93 = .ok (.getfield 278, 3) := by decide +kernel
theorem dX8_matters_96 : decode cX8_matters 96 = .ok (.lsub, 1) := by decide +kernel
theorem dX8_matters_97 : decode cX8_matters 97 = .ok (.lload 5, 2) := by decide +kernel
theorem dX8_matters_99 : decode cX8_matters 99 = .ok (.iload_n 1, 1) := by decide +kernel
theorem dX8_matters_100 : decode cX8_matters 100 = .ok (.invokestatic 337, 3) := by decide +kernel
theorem dX8_matters_103 : decode cX8_matters 103 = .ok (.goto 28, 3) := by decide +kernel
theorem dX8_matters_106 : decode cX8_matters 106 = .ok (.lload_n 3, 1) := by decide +kernel
theorem dX8_matters_107 : decode cX8_matters 107 = .ok (.aload_n 0, 1) := by decide +kernel
theorem dX8_matters_108 : decode cX8_matters 108 = .ok (.getfield 281, 3) := by decide +kernel
theorem dX8_matters_111 : decode cX8_matters 111 = .ok (.lmul, 1) := by decide +kernel
theorem dX8_matters_112 : decode cX8_matters 112 = .ok (.aload_n 0, 1) := by decide +kernel
theorem dX8_matters_113 : decode cX8_matters 113 = .ok (.getfield 278, 3) := by decide +kernel
theorem dX8_matters_116 : decode cX8_matters 116 = .ok (.lload 5, 2) := by decide +kernel
theorem dX8_matters_118 : decode cX8_matters 118 = .ok (.lmul, 1) := by decide +kernel
theorem dX8_matters_119 : decode cX8_matters 119 = .ok (.lsub, 1) := by decide +kernel
theorem dX8_matters_120 : decode cX8_matters 120 = .ok (.lload 5, 2) := by decide +kernel
theorem dX8_matters_122 : decode cX8_matters 122 = .ok (.aload_n 0, 1) := by decide +kernel
theorem dX8_matters_123 : decode cX8_matters 123 = .ok (.getfield 281, 3) := by decide +kernel
theorem dX8_matters_126 : decode cX8_matters 126 = .ok (.lmul, 1) := by decide +kernel
theorem dX8_matters_127 : decode cX8_matters 127 = .ok (.iload_n 1, 1) := by decide +kernel
theorem dX8_matters_128 : decode cX8_matters 128 = .ok (.invokestatic 337, 3) := by decide +kernel
theorem dX8_matters_131 : decode cX8_matters 131 = .ok (.lreturn, 1) := by decide +kernel
theorem dX8_startBy_0 : decode cX8_startBy 0 = .ok (.aload_n 0, 1) := by decide +kernel
theorem dX8_startBy_1 : decode cX8_startBy 1 = .ok (.invokevirtual 211, 3) := by decide +kernel
theorem dX8_startBy_4 : decode cX8_startBy 4 = .ok (.aload_n 0, 1) := by decide +kernel
theorem dX8_startBy_5 : decode cX8_startBy 5 = .ok (.iload_n 1, 1) := by decide +kernel
theorem dX8_startBy_6 : decode cX8_startBy 6 = .ok (.putfield 193, 3) := by decide +kernel
theorem dX8_startBy_9 : decode cX8_startBy 9 = .ok (.aload_n 0, 1) := by decide +kernel
theorem dX8_startBy_10 : decode cX8_startBy 10 = .ok (.iload_n 2, 1) := by decide +kernel
theorem dX8_startBy_11 : decode cX8_startBy 11 = .ok (.putfield 196, 3) := by decide +kernel
theorem dX8_startBy_14 : decode cX8_startBy 14 = .ok (.aload_n 0, 1) := by decide +kernel
theorem dX8_startBy_15 : decode cX8_startBy 15 = .ok (.invokevirtual 199, 3) := by decide +kernel
theorem dX8_startBy_18 : decode cX8_startBy 18 = .ok (.return_, 1) := by decide +kernel
theorem dX8_oddsBy_0 : decode cX8_oddsBy 0 = .ok (.aload_n 0, 1) := by decide +kernel
theorem dX8_oddsBy_1 : decode cX8_oddsBy 1 = .ok (.iconst 0, 1) := by decide +kernel
theorem dX8_oddsBy_2 : decode cX8_oddsBy 2 = .ok (.putfield 75, 3) := by decide +kernel
theorem dX8_oddsBy_5 : decode cX8_oddsBy 5 = .ok (.aload_n 0, 1) := by decide +kernel
theorem dX8_oddsBy_6 : decode cX8_oddsBy 6 = .ok (.iload_n 1, 1) := by decide +kernel
theorem dX8_oddsBy_7 : decode cX8_oddsBy 7 = .ok (.invokevirtual 294, 3) := by decide +kernel
theorem dX8_oddsBy_10 : decode cX8_oddsBy 10 = .ok (.ifCond .eq 33, 3) := by decide +kernel
theorem dX8_oddsBy_13 : decode cX8_oddsBy 13 = .ok (.iload_n 2, 1) := by decide +kernel
theorem dX8_oddsBy_14 : decode cX8_oddsBy 14 = .ok (.i2l, 1) := by decide +kernel
theorem dX8_oddsBy_15 : decode cX8_oddsBy 15 = .ok (.lconst 0, 1) := by decide +kernel
theorem dX8_oddsBy_16 : decode cX8_oddsBy 16 = .ok (.ldc2_w 324, 3) := by decide +kernel
theorem dX8_oddsBy_19 : decode cX8_oddsBy 19 = .ok (.invokestatic 79, 3) := by decide +kernel
theorem dX8_oddsBy_22 : decode cX8_oddsBy 22 = .ok (.ifCond .eq 21, 3) := by decide +kernel
theorem dX8_oddsBy_25 : decode cX8_oddsBy 25 = .ok (.iload_n 3, 1) := by decide +kernel
theorem dX8_oddsBy_26 : decode cX8_oddsBy 26 = .ok (.invokestatic 87, 3) := by decide +kernel
theorem dX8_oddsBy_29 : decode cX8_oddsBy 29 = .ok (.ifCond .eq 14, 3) := by decide +kernel
theorem dX8_oddsBy_32 : decode cX8_oddsBy 32 = .ok (.iload 4, 2) := by decide +kernel
theorem dX8_oddsBy_34 : decode cX8_oddsBy 34 = .ok (.i2l, 1) := by decide +kernel
theorem dX8_oddsBy_35 : decode cX8_oddsBy 35 = .ok (.lconst 0, 1) := by decide +kernel
theorem dX8_oddsBy_36 : decode cX8_oddsBy 36 = .ok (.lconst 1, 1) := by decide +kernel
theorem dX8_oddsBy_37 : decode cX8_oddsBy 37 = .ok (.invokestatic 79, 3) := by decide +kernel
theorem dX8_oddsBy_40 : decode cX8_oddsBy 40 = .ok (.ifCond .ne 7, 3) := by decide +kernel
theorem dX8_oddsBy_43 : decode cX8_oddsBy 43 = .ok (.ldc2_w 332, 3) := by decide +kernel
theorem dX8_oddsBy_46 : decode cX8_oddsBy 46 = .ok (.lreturn, 1) := by decide +kernel
theorem dX8_oddsBy_47 : decode cX8_oddsBy 47 = .ok (.aload_n 0, 1) := by decide +kernel
theorem dX8_oddsBy_48 : decode cX8_oddsBy 48 = .ok (.iload_n 2, 1) := by decide +kernel
theorem dX8_oddsBy_49 : decode cX8_oddsBy 49 = .ok (.iload_n 3, 1) := by decide +kernel
theorem dX8_oddsBy_50 : decode cX8_oddsBy 50 = .ok (.invokevirtual 343, 3) := by decide +kernel
theorem dX8_oddsBy_53 : decode cX8_oddsBy 53 = .ok (.aload_n 0, 1) := by decide +kernel
theorem dX8_oddsBy_54 : decode cX8_oddsBy 54 = .ok (.iload_n 1, 1) := by decide +kernel
theorem dX8_oddsBy_55 : decode cX8_oddsBy 55 = .ok (.invokevirtual 334, 3) := by decide +kernel
theorem dX8_oddsBy_58 : decode cX8_oddsBy 58 = .ok (.aload_n 0, 1) := by decide +kernel
theorem dX8_oddsBy_59 : decode cX8_oddsBy 59 = .ok (.getfield 278, 3) := by decide +kernel
theorem dX8_oddsBy_62 : decode cX8_oddsBy 62 = .ok (.aload_n 0, 1) := by decide +kernel
theorem dX8_oddsBy_63 : decode cX8_oddsBy 63 = .ok (.getfield 281, 3) := by decide +kernel
theorem dX8_oddsBy_66 : decode cX8_oddsBy 66 = .ok (.iload 4, 2) := by decide +kernel
theorem dX8_oddsBy_68 : decode cX8_oddsBy 68 = .ok (.invokestatic 337, 3) := by decide +kernel
theorem dX8_oddsBy_71 : decode cX8_oddsBy 71 = .ok (.lreturn, 1) := by decide +kernel
theorem dX8_layUnfair_0 : decode cX8_layUnfair 0 = .ok (.aload_n 0, 1) := by decide +kernel
theorem dX8_layUnfair_1 : decode cX8_layUnfair 1 = .ok (.iload_n 1, 1) := by decide +kernel
theorem dX8_layUnfair_2 : decode cX8_layUnfair 2 = .ok (.aload_n 0, 1) := by decide +kernel
theorem dX8_layUnfair_3 : decode cX8_layUnfair 3 = .ok (.getfield 9, 3) := by decide +kernel
theorem dX8_layUnfair_6 : decode cX8_layUnfair 6 = .ok (.iconst 2, 1) := by decide +kernel
theorem dX8_layUnfair_7 : decode cX8_layUnfair 7 = .ok (.iaload, 1) := by decide +kernel
theorem dX8_layUnfair_8 : decode cX8_layUnfair 8 = .ok (.invokevirtual 343, 3) := by decide +kernel
theorem dX8_layUnfair_11 : decode cX8_layUnfair 11 = .ok (.aload_n 0, 1) := by decide +kernel
theorem dX8_layUnfair_12 : decode cX8_layUnfair 12 = .ok (.iconst 0, 1) := by decide +kernel
theorem dX8_layUnfair_13 : decode cX8_layUnfair 13 = .ok (.invokevirtual 334, 3) := by decide +kernel
theorem dX8_layUnfair_16 : decode cX8_layUnfair 16 = .ok (.aload_n 0, 1) := by decide +kernel
theorem dX8_layUnfair_17 : decode cX8_layUnfair 17 = .ok (.getfield 278, 3) := by decide +kernel
theorem dX8_layUnfair_20 : decode cX8_layUnfair 20 = .ok (.lstore_n 2, 1) := by decide +kernel
theorem dX8_layUnfair_21 : decode cX8_layUnfair 21 = .ok (.aload_n 0, 1) := by decide +kernel
theorem dX8_layUnfair_22 : decode cX8_layUnfair 22 = .ok (.iconst 1, 1) := by decide +kernel
theorem dX8_layUnfair_23 : decode cX8_layUnfair 23 = .ok (.invokevirtual 334, 3) := by decide +kernel
theorem dX8_layUnfair_26 : decode cX8_layUnfair 26 = .ok (.aload_n 0, 1) := by decide +kernel
theorem dX8_layUnfair_27 : decode cX8_layUnfair 27 = .ok (.lload_n 2, 1) := by decide +kernel
theorem dX8_layUnfair_28 : decode cX8_layUnfair 28 = .ok (.aload_n 0, 1) := by decide +kernel
theorem dX8_layUnfair_29 : decode cX8_layUnfair 29 = .ok (.getfield 278, 3) := by decide +kernel
theorem dX8_layUnfair_32 : decode cX8_layUnfair 32 = .ok (.lcmp, 1) := by decide +kernel
theorem dX8_layUnfair_33 : decode cX8_layUnfair 33 = .ok (.ifCond .ge 12, 3) := by decide +kernel
theorem dX8_layUnfair_36 : decode cX8_layUnfair 36 = .ok (.aload_n 0, 1) := by decide +kernel
theorem dX8_layUnfair_37 : decode cX8_layUnfair 37 = .ok (.getfield 278, 3) := by decide +kernel
theorem dX8_layUnfair_40 : decode cX8_layUnfair 40 = .ok (.lload_n 2, 1) := by decide +kernel
theorem dX8_layUnfair_41 : decode cX8_layUnfair 41 = .ok (.lsub, 1) := by decide +kernel
theorem dX8_layUnfair_42 : decode cX8_layUnfair 42 = .ok (.goto 9, 3) := by decide +kernel
theorem dX8_layUnfair_45 : decode cX8_layUnfair 45 = .ok (.lload_n 2, 1) := by decide +kernel
theorem dX8_layUnfair_46 : decode cX8_layUnfair 46 = .ok (.aload_n 0, 1) := by decide +kernel
theorem dX8_layUnfair_47 : decode cX8_layUnfair 47 = .ok (.getfield 278, 3) := by decide +kernel
theorem dX8_layUnfair_50 : decode cX8_layUnfair 50 = .ok (.lsub, 1) := by decide +kernel
theorem dX8_layUnfair_51 : decode cX8_layUnfair 51 = .ok (.putfield 278, 3) := by decide +kernel
theorem dX8_layUnfair_54 : decode cX8_layUnfair 54 = .ok (.return_, 1) := by decide +kernel
theorem dX8_unfair_0 : decode cX8_unfair 0 = .ok (.aload_n 0, 1) := by decide +kernel
theorem dX8_unfair_1 : decode cX8_unfair 1 = .ok (.iconst 0, 1) := by decide +kernel
theorem dX8_unfair_2 : decode cX8_unfair 2 = .ok (.putfield 75, 3) := by decide +kernel
theorem dX8_unfair_5 : decode cX8_unfair 5 = .ok (.aload_n 0, 1) := by decide +kernel
theorem dX8_unfair_6 : decode cX8_unfair 6 = .ok (.invokevirtual 83, 3) := by decide +kernel
theorem dX8_unfair_9 : decode cX8_unfair 9 = .ok (.ifCond .eq 25, 3) := by decide +kernel
theorem dX8_unfair_12 : decode cX8_unfair 12 = .ok (.iload_n 1, 1) := by decide +kernel
theorem dX8_unfair_13 : decode cX8_unfair 13 = .ok (.i2l, 1) := by decide +kernel
theorem dX8_unfair_14 : decode cX8_unfair 14 = .ok (.lconst 0, 1) := by decide +kernel
theorem dX8_unfair_15 : decode cX8_unfair 15 = .ok (.ldc2_w 324, 3) := by decide +kernel
theorem dX8_unfair_18 : decode cX8_unfair 18 = .ok (.invokestatic 79, 3) := by decide +kernel
theorem dX8_unfair_21 : decode cX8_unfair 21 = .ok (.ifCond .eq 13, 3) := by decide +kernel
theorem dX8_unfair_24 : decode cX8_unfair 24 = .ok (.iload_n 2, 1) := by decide +kernel
theorem dX8_unfair_25 : decode cX8_unfair 25 = .ok (.i2l, 1) := by decide +kernel
theorem dX8_unfair_26 : decode cX8_unfair 26 = .ok (.lconst 0, 1) := by decide +kernel
theorem dX8_unfair_27 : decode cX8_unfair 27 = .ok (.lconst 1, 1) := by decide +kernel
theorem dX8_unfair_28 : decode cX8_unfair 28 = .ok (.invokestatic 79, 3) := by decide +kernel
theorem dX8_unfair_31 : decode cX8_unfair 31 = .ok (.ifCond .ne 7, 3) := by decide +kernel
theorem dX8_unfair_34 : decode cX8_unfair 34 = .ok (.ldc2_w 332, 3) := by decide +kernel
theorem dX8_unfair_37 : decode cX8_unfair 37 = .ok (.lreturn, 1) := by decide +kernel
theorem dX8_unfair_38 : decode cX8_unfair 38 = .ok (.aload_n 0, 1) := by decide +kernel
theorem dX8_unfair_39 : decode cX8_unfair 39 = .ok (.iload_n 1, 1) := by decide +kernel
theorem dX8_unfair_40 : decode cX8_unfair 40 = .ok (.invokevirtual 346, 3) := by decide +kernel
theorem dX8_unfair_43 : decode cX8_unfair 43 = .ok (.aload_n 0, 1) := by decide +kernel
theorem dX8_unfair_44 : decode cX8_unfair 44 = .ok (.getfield 278, 3) := by decide +kernel
theorem dX8_unfair_47 : decode cX8_unfair 47 = .ok (.aload_n 0, 1) := by decide +kernel
theorem dX8_unfair_48 : decode cX8_unfair 48 = .ok (.getfield 281, 3) := by decide +kernel
theorem dX8_unfair_51 : decode cX8_unfair 51 = .ok (.iload_n 2, 1) := by decide +kernel
theorem dX8_unfair_52 : decode cX8_unfair 52 = .ok (.invokestatic 337, 3) := by decide +kernel
theorem dX8_unfair_55 : decode cX8_unfair 55 = .ok (.lreturn, 1) := by decide +kernel
theorem dX8_fairest_0 : decode cX8_fairest 0 = .ok (.aload_n 0, 1) := by decide +kernel
theorem dX8_fairest_1 : decode cX8_fairest 1 = .ok (.iconst 0, 1) := by decide +kernel
theorem dX8_fairest_2 : decode cX8_fairest 2 = .ok (.putfield 75, 3) := by decide +kernel
theorem dX8_fairest_5 : decode cX8_fairest 5 = .ok (.aload_n 0, 1) := by decide +kernel
theorem dX8_fairest_6 : decode cX8_fairest 6 = .ok (.invokevirtual 83, 3) := by decide +kernel
theorem dX8_fairest_9 : decode cX8_fairest 9 = .ok (.ifCond .ne 5, 3) := by decide +kernel
theorem dX8_fairest_12 : decode cX8_fairest 12 = .ok (.iconst (-1), 1) := by decide +kernel
theorem dX8_fairest_13 : decode cX8_fairest 13 = .ok (.ireturn, 1) := by decide +kernel
theorem dX8_fairest_14 : decode cX8_fairest 14 = .ok (.iconst (-1), 1) := by decide +kernel
theorem dX8_fairest_15 : decode cX8_fairest 15 = .ok (.istore_n 1, 1) := by decide +kernel
theorem dX8_fairest_16 : decode cX8_fairest 16 = .ok (.lconst 1, 1) := by decide +kernel
theorem dX8_fairest_17 : decode cX8_fairest 17 = .ok (.lstore_n 2, 1) := by decide +kernel
theorem dX8_fairest_18 : decode cX8_fairest 18 = .ok (.lconst 1, 1) := by decide +kernel
theorem dX8_fairest_19 : decode cX8_fairest 19 = .ok (.lstore 4, 2) := by decide +kernel
theorem dX8_fairest_21 : decode cX8_fairest 21 = .ok (.iconst 0, 1) := by decide +kernel
theorem dX8_fairest_22 : decode cX8_fairest 22 = .ok (.istore 6, 2) := by decide +kernel
theorem dX8_fairest_24 : decode cX8_fairest 24 = .ok (.iload 6, 2) := by decide +kernel
theorem dX8_fairest_26 : decode cX8_fairest 26 = .ok (.iconst 4, 1) := by decide +kernel
theorem dX8_fairest_27 : decode cX8_fairest 27 = .ok (.if_icmp .ge 51, 3) := by decide +kernel
theorem dX8_fairest_30 : decode cX8_fairest 30 = .ok (.aload_n 0, 1) := by decide +kernel
theorem dX8_fairest_31 : decode cX8_fairest 31 = .ok (.iload 6, 2) := by decide +kernel
theorem dX8_fairest_33 : decode cX8_fairest 33 = .ok (.invokevirtual 346, 3) := by decide +kernel
theorem dX8_fairest_36 : decode cX8_fairest 36 = .ok (.iload_n 1, 1) := by decide +kernel
theorem dX8_fairest_37 : decode cX8_fairest 37 = .ok (.iconst (-1), 1) := by decide +kernel
theorem dX8_fairest_38 : decode cX8_fairest 38 = .ok (.if_icmp .eq 20, 3) := by decide +kernel
theorem dX8_fairest_41 : decode cX8_fairest 41 = .ok (.aload_n 0, 1) := by decide +kernel
theorem dX8_fairest_42 : decode cX8_fairest 42 = .ok (.getfield 278, 3) := by decide +kernel
theorem dX8_fairest_45 : decode cX8_fairest 45 = .ok (.aload_n 0, 1) := by decide +kernel
theorem dX8_fairest_46 : decode cX8_fairest 46 = .ok (.getfield 281, 3) := by decide +kernel
theorem dX8_fairest_49 : decode cX8_fairest 49 = .ok (.lload_n 2, 1) := by decide +kernel
theorem dX8_fairest_50 : decode cX8_fairest 50 = .ok (.lload 4, 2) := by decide +kernel
theorem dX8_fairest_52 : decode cX8_fairest 52 = .ok (.invokestatic 349, 3) := by decide +kernel
theorem dX8_fairest_55 : decode cX8_fairest 55 = .ok (.ifCond .ge 17, 3) := by decide +kernel
theorem dX8_fairest_58 : decode cX8_fairest 58 = .ok (.iload 6, 2) := by decide +kernel
theorem dX8_fairest_60 : decode cX8_fairest 60 = .ok (.istore_n 1, 1) := by decide +kernel
theorem dX8_fairest_61 : decode cX8_fairest 61 = .ok (.aload_n 0, 1) := by decide +kernel
theorem dX8_fairest_62 : decode cX8_fairest 62 = .ok (.getfield 278, 3) := by decide +kernel
theorem dX8_fairest_65 : decode cX8_fairest 65 = .ok (.lstore_n 2, 1) := by decide +kernel
theorem dX8_fairest_66 : decode cX8_fairest 66 = .ok (.aload_n 0, 1) := by decide +kernel
theorem dX8_fairest_67 : decode cX8_fairest 67 = .ok (.getfield 281, 3) := by decide +kernel
theorem dX8_fairest_70 : decode cX8_fairest 70 = .ok (.lstore 4, 2) := by decide +kernel
theorem dX8_fairest_72 : decode cX8_fairest 72 = .ok (.iinc 6 1, 3) := by decide +kernel
theorem dX8_fairest_75 : decode cX8_fairest 75 = .ok (.goto (-51), 3) := by decide +kernel
theorem dX8_fairest_78 : decode cX8_fairest 78 = .ok (.iload_n 1, 1) := by decide +kernel
theorem dX8_fairest_79 : decode cX8_fairest 79 = .ok (.ireturn, 1) := by decide +kernel
theorem dX8_toss_0 : decode cX8_toss 0 = .ok (.aload_n 0, 1) := by decide +kernel
theorem dX8_toss_1 : decode cX8_toss 1 = .ok (.iconst 0, 1) := by decide +kernel
theorem dX8_toss_2 : decode cX8_toss 2 = .ok (.putfield 75, 3) := by decide +kernel
theorem dX8_toss_5 : decode cX8_toss 5 = .ok (.aload_n 0, 1) := by decide +kernel
theorem dX8_toss_6 : decode cX8_toss 6 = .ok (.iload_n 1, 1) := by decide +kernel
theorem dX8_toss_7 : decode cX8_toss 7 = .ok (.invokevirtual 294, 3) := by decide +kernel
theorem dX8_toss_10 : decode cX8_toss 10 = .ok (.ifCond .eq 15, 3) := by decide +kernel
theorem dX8_toss_13 : decode cX8_toss 13 = .ok (.iload_n 2, 1) := by decide +kernel
theorem dX8_toss_14 : decode cX8_toss 14 = .ok (.i2l, 1) := by decide +kernel
theorem dX8_toss_15 : decode cX8_toss 15 = .ok (.lconst 0, 1) := by decide +kernel
theorem dX8_toss_16 : decode cX8_toss 16 = .ok (.ldc2_w 324, 3) := by decide +kernel
theorem dX8_toss_19 : decode cX8_toss 19 = .ok (.invokestatic 79, 3) := by decide +kernel
theorem dX8_toss_22 : decode cX8_toss 22 = .ok (.ifCond .ne 5, 3) := by decide +kernel
theorem dX8_toss_25 : decode cX8_toss 25 = .ok (.iconst (-1), 1) := by decide +kernel
theorem dX8_toss_26 : decode cX8_toss 26 = .ok (.ireturn, 1) := by decide +kernel
theorem dX8_toss_27 : decode cX8_toss 27 = .ok (.aload_n 0, 1) := by decide +kernel
theorem dX8_toss_28 : decode cX8_toss 28 = .ok (.iload_n 2, 1) := by decide +kernel
theorem dX8_toss_29 : decode cX8_toss 29 = .ok (.iload_n 1, 1) := by decide +kernel
theorem dX8_toss_30 : decode cX8_toss 30 = .ok (.invokevirtual 343, 3) := by decide +kernel
theorem dX8_toss_33 : decode cX8_toss 33 = .ok (.aload_n 0, 1) := by decide +kernel
theorem dX8_toss_34 : decode cX8_toss 34 = .ok (.iload_n 1, 1) := by decide +kernel
theorem dX8_toss_35 : decode cX8_toss 35 = .ok (.invokevirtual 334, 3) := by decide +kernel
theorem dX8_toss_38 : decode cX8_toss 38 = .ok (.aload_n 0, 1) := by decide +kernel
theorem dX8_toss_39 : decode cX8_toss 39 = .ok (.getfield 278, 3) := by decide +kernel
theorem dX8_toss_42 : decode cX8_toss 42 = .ok (.lstore_n 3, 1) := by decide +kernel
theorem dX8_toss_43 : decode cX8_toss 43 = .ok (.aload_n 0, 1) := by decide +kernel
theorem dX8_toss_44 : decode cX8_toss 44 = .ok (.getfield 281, 3) := by decide +kernel
theorem dX8_toss_47 : decode cX8_toss 47 = .ok (.lstore 5, 2) := by decide +kernel
theorem dX8_toss_49 : decode cX8_toss 49 = .ok (.aload_n 0, 1) := by decide +kernel
theorem dX8_toss_50 : decode cX8_toss 50 = .ok (.iload_n 2, 1) := by decide +kernel
theorem dX8_toss_51 : decode cX8_toss 51 = .ok (.iconst 1, 1) := by decide +kernel
theorem dX8_toss_52 : decode cX8_toss 52 = .ok (.iload_n 1, 1) := by decide +kernel
theorem dX8_toss_53 : decode cX8_toss 53 = .ok (.isub, 1) := by decide +kernel
theorem dX8_toss_54 : decode cX8_toss 54 = .ok (.invokevirtual 343, 3) := by decide +kernel
theorem dX8_toss_57 : decode cX8_toss 57 = .ok (.aload_n 0, 1) := by decide +kernel
theorem dX8_toss_58 : decode cX8_toss 58 = .ok (.iload_n 1, 1) := by decide +kernel
theorem dX8_toss_59 : decode cX8_toss 59 = .ok (.invokevirtual 334, 3) := by decide +kernel
theorem dX8_toss_62 : decode cX8_toss 62 = .ok (.lload_n 3, 1) := by decide +kernel
theorem dX8_toss_63 : decode cX8_toss 63 = .ok (.lload 5, 2) := by decide +kernel
theorem dX8_toss_65 : decode cX8_toss 65 = .ok (.aload_n 0, 1) := by decide +kernel
theorem dX8_toss_66 : decode cX8_toss 66 = .ok (.getfield 278, 3) := by decide +kernel
theorem dX8_toss_69 : decode cX8_toss 69 = .ok (.aload_n 0, 1) := by decide +kernel
theorem dX8_toss_70 : decode cX8_toss 70 = .ok (.getfield 281, 3) := by decide +kernel
theorem dX8_toss_73 : decode cX8_toss 73 = .ok (.invokestatic 349, 3) := by decide +kernel
theorem dX8_toss_76 : decode cX8_toss 76 = .ok (.istore 7, 2) := by decide +kernel
theorem dX8_toss_78 : decode cX8_toss 78 = .ok (.iload 7, 2) := by decide +kernel
theorem dX8_toss_80 : decode cX8_toss 80 = .ok (.ifCond .le 7, 3) := by decide +kernel
theorem dX8_toss_83 : decode cX8_toss 83 = .ok (.iconst 0, 1) := by decide +kernel
theorem dX8_toss_84 : decode cX8_toss 84 = .ok (.goto 13, 3) := by decide +kernel
theorem dX8_toss_87 : decode cX8_toss 87 = .ok (.iload 7, 2) := by decide +kernel
theorem dX8_toss_89 : decode cX8_toss 89 = .ok (.ifCond .ge 7, 3) := by decide +kernel
theorem dX8_toss_92 : decode cX8_toss 92 = .ok (.iconst 1, 1) := by decide +kernel
theorem dX8_toss_93 : decode cX8_toss 93 = .ok (.goto 4, 3) := by decide +kernel
theorem dX8_toss_96 : decode cX8_toss 96 = .ok (.iconst 2, 1) := by decide +kernel
theorem dX8_toss_97 : decode cX8_toss 97 = .ok (.ireturn, 1) := by decide +kernel
theorem dX8_layStart_0 : decode cX8_layStart 0 = .ok (.aload_n 0, 1) := by decide +kernel
theorem dX8_layStart_1 : decode cX8_layStart 1 = .ok (.invokevirtual 211, 3) := by decide +kernel
theorem dX8_layStart_4 : decode cX8_layStart 4 = .ok (.aload_n 0, 1) := by decide +kernel
theorem dX8_layStart_5 : decode cX8_layStart 5 = .ok (.invokevirtual 287, 3) := by decide +kernel
theorem dX8_layStart_8 : decode cX8_layStart 8 = .ok (.return_, 1) := by decide +kernel
theorem dX8_ends_0 : decode cX8_ends 0 = .ok (.aload_n 0, 1) := by decide +kernel
theorem dX8_ends_1 : decode cX8_ends 1 = .ok (.iconst 0, 1) := by decide +kernel
theorem dX8_ends_2 : decode cX8_ends 2 = .ok (.putfield 75, 3) := by decide +kernel
theorem dX8_ends_5 : decode cX8_ends 5 = .ok (.aload_n 0, 1) := by decide +kernel
theorem dX8_ends_6 : decode cX8_ends 6 = .ok (.invokevirtual 83, 3) := by decide +kernel
theorem dX8_ends_9 : decode cX8_ends 9 = .ok (.ifCond .eq 21, 3) := by decide +kernel
theorem dX8_ends_12 : decode cX8_ends 12 = .ok (.iload_n 1, 1) := by decide +kernel
theorem dX8_ends_13 : decode cX8_ends 13 = .ok (.i2l, 1) := by decide +kernel
theorem dX8_ends_14 : decode cX8_ends 14 = .ok (.lconst 0, 1) := by decide +kernel
theorem dX8_ends_15 : decode cX8_ends 15 = .ok (.ldc2_w 353, 3) := by decide +kernel
theorem dX8_ends_18 : decode cX8_ends 18 = .ok (.aload_n 0, 1) := by decide +kernel
theorem dX8_ends_19 : decode cX8_ends 19 = .ok (.invokevirtual 190, 3) := by decide +kernel
theorem dX8_ends_22 : decode cX8_ends 22 = .ok (.i2l, 1) := by decide +kernel
theorem dX8_ends_23 : decode cX8_ends 23 = .ok (.lmul, 1) := by decide +kernel
theorem dX8_ends_24 : decode cX8_ends 24 = .ok (.invokestatic 79, 3) := by decide +kernel
theorem dX8_ends_27 : decode cX8_ends 27 = .ok (.ifCond .ne 7, 3) := by decide +kernel
theorem dX8_ends_30 : decode cX8_ends 30 = .ok (.ldc2_w 332, 3) := by decide +kernel
theorem dX8_ends_33 : decode cX8_ends 33 = .ok (.lreturn, 1) := by decide +kernel
theorem dX8_ends_34 : decode cX8_ends 34 = .ok (.aload_n 0, 1) := by decide +kernel
theorem dX8_ends_35 : decode cX8_ends 35 = .ok (.invokevirtual 355, 3) := by decide +kernel
theorem dX8_ends_38 : decode cX8_ends 38 = .ok (.aload_n 0, 1) := by decide +kernel
theorem dX8_ends_39 : decode cX8_ends 39 = .ok (.getfield 51, 3) := by decide +kernel
theorem dX8_ends_42 : decode cX8_ends 42 = .ok (.iload_n 1, 1) := by decide +kernel
theorem dX8_ends_43 : decode cX8_ends 43 = .ok (.laload, 1) := by decide +kernel
theorem dX8_ends_44 : decode cX8_ends 44 = .ok (.lreturn, 1) := by decide +kernel
theorem dX8_score_0 : decode cX8_score 0 = .ok (.aload_n 0, 1) := by decide +kernel
theorem dX8_score_1 : decode cX8_score 1 = .ok (.iconst 0, 1) := by decide +kernel
theorem dX8_score_2 : decode cX8_score 2 = .ok (.putfield 75, 3) := by decide +kernel
theorem dX8_score_5 : decode cX8_score 5 = .ok (.aload_n 0, 1) := by decide +kernel
theorem dX8_score_6 : decode cX8_score 6 = .ok (.invokevirtual 83, 3) := by decide +kernel
theorem dX8_score_9 : decode cX8_score 9 = .ok (.ifCond .eq 31, 3) := by decide +kernel
theorem dX8_score_12 : decode cX8_score 12 = .ok (.iload_n 1, 1) := by decide +kernel
theorem dX8_score_13 : decode cX8_score 13 = .ok (.i2l, 1) := by decide +kernel
theorem dX8_score_14 : decode cX8_score 14 = .ok (.lconst 0, 1) := by decide +kernel
theorem dX8_score_15 : decode cX8_score 15 = .ok (.aload_n 0, 1) := by decide +kernel
theorem dX8_score_16 : decode cX8_score 16 = .ok (.invokevirtual 190, 3) := by decide +kernel
theorem dX8_score_19 : decode cX8_score 19 = .ok (.i2l, 1) := by decide +kernel
theorem dX8_score_20 : decode cX8_score 20 = .ok (.invokestatic 79, 3) := by decide +kernel
theorem dX8_score_23 : decode cX8_score 23 = .ok (.ifCond .eq 17, 3) := by decide +kernel
theorem dX8_score_26 : decode cX8_score 26 = .ok (.iload_n 2, 1) := by decide +kernel
theorem dX8_score_27 : decode cX8_score 27 = .ok (.i2l, 1) := by decide +kernel
theorem dX8_score_28 : decode cX8_score 28 = .ok (.lconst 0, 1) := by decide +kernel
theorem dX8_score_29 : decode cX8_score 29 = .ok (.aload_n 0, 1) := by decide +kernel
theorem dX8_score_30 : decode cX8_score 30 = .ok (.invokevirtual 190, 3) := by decide +kernel
theorem dX8_score_33 : decode cX8_score 33 = .ok (.i2l, 1) := by decide +kernel
theorem dX8_score_34 : decode cX8_score 34 = .ok (.invokestatic 79, 3) := by decide +kernel
theorem dX8_score_37 : decode cX8_score 37 = .ok (.ifCond .ne 7, 3) := by decide +kernel
theorem dX8_score_40 : decode cX8_score 40 = .ok (.ldc2_w 332, 3) := by decide +kernel
theorem dX8_score_43 : decode cX8_score 43 = .ok (.lreturn, 1) := by decide +kernel
theorem dX8_score_44 : decode cX8_score 44 = .ok (.aload_n 0, 1) := by decide +kernel
theorem dX8_score_45 : decode cX8_score 45 = .ok (.invokevirtual 355, 3) := by decide +kernel
theorem dX8_score_48 : decode cX8_score 48 = .ok (.aload_n 0, 1) := by decide +kernel
theorem dX8_score_49 : decode cX8_score 49 = .ok (.getfield 54, 3) := by decide +kernel
theorem dX8_score_52 : decode cX8_score 52 = .ok (.bipush 6, 2) := by decide +kernel
theorem dX8_score_54 : decode cX8_score 54 = .ok (.iload_n 1, 1) := by decide +kernel
theorem dX8_score_55 : decode cX8_score 55 = .ok (.imul, 1) := by decide +kernel
theorem dX8_score_56 : decode cX8_score 56 = .ok (.iload_n 2, 1) := by decide +kernel
theorem dX8_score_57 : decode cX8_score 57 = .ok (.iadd, 1) := by decide +kernel
theorem dX8_score_58 : decode cX8_score 58 = .ok (.laload, 1) := by decide +kernel
theorem dX8_score_59 : decode cX8_score 59 = .ok (.lreturn, 1) := by decide +kernel
theorem dX8_likely_0 : decode cX8_likely 0 = .ok (.aload_n 0, 1) := by decide +kernel
theorem dX8_likely_1 : decode cX8_likely 1 = .ok (.iconst 0, 1) := by decide +kernel
theorem dX8_likely_2 : decode cX8_likely 2 = .ok (.putfield 75, 3) := by decide +kernel
theorem dX8_likely_5 : decode cX8_likely 5 = .ok (.aload_n 0, 1) := by decide +kernel
theorem dX8_likely_6 : decode cX8_likely 6 = .ok (.invokevirtual 83, 3) := by decide +kernel
theorem dX8_likely_9 : decode cX8_likely 9 = .ok (.ifCond .ne 5, 3) := by decide +kernel
theorem dX8_likely_12 : decode cX8_likely 12 = .ok (.iconst (-1), 1) := by decide +kernel
theorem dX8_likely_13 : decode cX8_likely 13 = .ok (.ireturn, 1) := by decide +kernel
theorem dX8_likely_14 : decode cX8_likely 14 = .ok (.aload_n 0, 1) := by decide +kernel
theorem dX8_likely_15 : decode cX8_likely 15 = .ok (.invokevirtual 355, 3) := by decide +kernel
theorem dX8_likely_18 : decode cX8_likely 18 = .ok (.iconst 0, 1) := by decide +kernel
theorem dX8_likely_19 : decode cX8_likely 19 = .ok (.istore_n 1, 1) := by decide +kernel
theorem dX8_likely_20 : decode cX8_likely 20 = .ok (.iconst 1, 1) := by decide +kernel
theorem dX8_likely_21 : decode cX8_likely 21 = .ok (.istore_n 2, 1) := by decide +kernel
theorem dX8_likely_22 : decode cX8_likely 22 = .ok (.iload_n 2, 1) := by decide +kernel
theorem dX8_likely_23 : decode cX8_likely 23 = .ok (.bipush 36, 2) := by decide +kernel
theorem dX8_likely_25 : decode cX8_likely 25 = .ok (.if_icmp .ge 31, 3) := by decide +kernel
theorem dX8_likely_28 : decode cX8_likely 28 = .ok (.aload_n 0, 1) := by decide +kernel
theorem dX8_likely_29 : decode cX8_likely 29 = .ok (.getfield 54, 3) := by decide +kernel
theorem dX8_likely_32 : decode cX8_likely 32 = .ok (.iload_n 2, 1) := by decide +kernel
theorem dX8_likely_33 : decode cX8_likely 33 = .ok (.laload, 1) := by decide +kernel
theorem dX8_likely_34 : decode cX8_likely 34 = .ok (.aload_n 0, 1) := by decide +kernel
theorem dX8_likely_35 : decode cX8_likely 35 = .ok (.getfield 54, 3) := by decide +kernel
theorem dX8_likely_38 : decode cX8_likely 38 = .ok (.iload_n 1, 1) := by decide +kernel
theorem dX8_likely_39 : decode cX8_likely 39 = .ok (.laload, 1) := by decide +kernel
theorem dX8_likely_40 : decode cX8_likely 40 = .ok (.lcmp, 1) := by decide +kernel
theorem dX8_likely_41 : decode cX8_likely 41 = .ok (.ifCond .le 7, 3) := by decide +kernel
theorem dX8_likely_44 : decode cX8_likely 44 = .ok (.iload_n 2, 1) := by decide +kernel
theorem dX8_likely_45 : decode cX8_likely 45 = .ok (.goto 4, 3) := by decide +kernel
theorem dX8_likely_48 : decode cX8_likely 48 = .ok (.iload_n 1, 1) := by decide +kernel
theorem dX8_likely_49 : decode cX8_likely 49 = .ok (.istore_n 1, 1) := by decide +kernel
theorem dX8_likely_50 : decode cX8_likely 50 = .ok (.iinc 2 1, 3) := by decide +kernel
theorem dX8_likely_53 : decode cX8_likely 53 = .ok (.goto (-31), 3) := by decide +kernel
theorem dX8_likely_56 : decode cX8_likely 56 = .ok (.iload_n 1, 1) := by decide +kernel
theorem dX8_likely_57 : decode cX8_likely 57 = .ok (.bipush 6, 2) := by decide +kernel
theorem dX8_likely_59 : decode cX8_likely 59 = .ok (.idiv, 1) := by decide +kernel
theorem dX8_likely_60 : decode cX8_likely 60 = .ok (.bipush 10, 2) := by decide +kernel
theorem dX8_likely_62 : decode cX8_likely 62 = .ok (.imul, 1) := by decide +kernel
theorem dX8_likely_63 : decode cX8_likely 63 = .ok (.iload_n 1, 1) := by decide +kernel
theorem dX8_likely_64 : decode cX8_likely 64 = .ok (.bipush 6, 2) := by decide +kernel
theorem dX8_likely_66 : decode cX8_likely 66 = .ok (.irem, 1) := by decide +kernel
theorem dX8_likely_67 : decode cX8_likely 67 = .ok (.iadd, 1) := by decide +kernel
theorem dX8_likely_68 : decode cX8_likely 68 = .ok (.ireturn, 1) := by decide +kernel
theorem dX8_mean_0 : decode cX8_mean 0 = .ok (.aload_n 0, 1) := by decide +kernel
theorem dX8_mean_1 : decode cX8_mean 1 = .ok (.iconst 0, 1) := by decide +kernel
theorem dX8_mean_2 : decode cX8_mean 2 = .ok (.putfield 75, 3) := by decide +kernel
theorem dX8_mean_5 : decode cX8_mean 5 = .ok (.aload_n 0, 1) := by decide +kernel
theorem dX8_mean_6 : decode cX8_mean 6 = .ok (.invokevirtual 83, 3) := by decide +kernel
theorem dX8_mean_9 : decode cX8_mean 9 = .ok (.ifCond .eq 13, 3) := by decide +kernel
theorem dX8_mean_12 : decode cX8_mean 12 = .ok (.iload_n 1, 1) := by decide +kernel
theorem dX8_mean_13 : decode cX8_mean 13 = .ok (.i2l, 1) := by decide +kernel
theorem dX8_mean_14 : decode cX8_mean 14 = .ok (.lconst 0, 1) := by decide +kernel
theorem dX8_mean_15 : decode cX8_mean 15 = .ok (.lconst 1, 1) := by decide +kernel
theorem dX8_mean_16 : decode cX8_mean 16 = .ok (.invokestatic 79, 3) := by decide +kernel
theorem dX8_mean_19 : decode cX8_mean 19 = .ok (.ifCond .ne 7, 3) := by decide +kernel
theorem dX8_mean_22 : decode cX8_mean 22 = .ok (.ldc2_w 332, 3) := by decide +kernel
theorem dX8_mean_25 : decode cX8_mean 25 = .ok (.lreturn, 1) := by decide +kernel
theorem dX8_mean_26 : decode cX8_mean 26 = .ok (.aload_n 0, 1) := by decide +kernel
theorem dX8_mean_27 : decode cX8_mean 27 = .ok (.invokevirtual 355, 3) := by decide +kernel
theorem dX8_mean_30 : decode cX8_mean 30 = .ok (.ldc2_w 353, 3) := by decide +kernel
theorem dX8_mean_33 : decode cX8_mean 33 = .ok (.aload_n 0, 1) := by decide +kernel
theorem dX8_mean_34 : decode cX8_mean 34 = .ok (.invokevirtual 190, 3) := by decide +kernel
theorem dX8_mean_37 : decode cX8_mean 37 = .ok (.i2l, 1) := by decide +kernel
theorem dX8_mean_38 : decode cX8_mean 38 = .ok (.lmul, 1) := by decide +kernel
theorem dX8_mean_39 : decode cX8_mean 39 = .ok (.aload_n 0, 1) := by decide +kernel
theorem dX8_mean_40 : decode cX8_mean 40 = .ok (.getfield 51, 3) := by decide +kernel
theorem dX8_mean_43 : decode cX8_mean 43 = .ok (.iconst 0, 1) := by decide +kernel
theorem dX8_mean_44 : decode cX8_mean 44 = .ok (.laload, 1) := by decide +kernel
theorem dX8_mean_45 : decode cX8_mean 45 = .ok (.lmul, 1) := by decide +kernel
theorem dX8_mean_46 : decode cX8_mean 46 = .ok (.lstore_n 2, 1) := by decide +kernel
theorem dX8_mean_47 : decode cX8_mean 47 = .ok (.iconst 1, 1) := by decide +kernel
theorem dX8_mean_48 : decode cX8_mean 48 = .ok (.istore 4, 2) := by decide +kernel
theorem dX8_mean_50 : decode cX8_mean 50 = .ok (.iload 4, 2) := by decide +kernel
theorem dX8_mean_52 : decode cX8_mean 52 = .ok (.bipush 11, 2) := by decide +kernel
theorem dX8_mean_54 : decode cX8_mean 54 = .ok (.if_icmp .ge 23, 3) := by decide +kernel
theorem dX8_mean_57 : decode cX8_mean 57 = .ok (.lload_n 2, 1) := by decide +kernel
theorem dX8_mean_58 : decode cX8_mean 58 = .ok (.iload 4, 2) := by decide +kernel
theorem dX8_mean_60 : decode cX8_mean 60 = .ok (.i2l, 1) := by decide +kernel
theorem dX8_mean_61 : decode cX8_mean 61 = .ok (.aload_n 0, 1) := by decide +kernel
theorem dX8_mean_62 : decode cX8_mean 62 = .ok (.getfield 51, 3) := by decide +kernel
theorem dX8_mean_65 : decode cX8_mean 65 = .ok (.iload 4, 2) := by decide +kernel
theorem dX8_mean_67 : decode cX8_mean 67 = .ok (.laload, 1) := by decide +kernel
theorem dX8_mean_68 : decode cX8_mean 68 = .ok (.lmul, 1) := by decide +kernel
theorem dX8_mean_69 : decode cX8_mean 69 = .ok (.ladd, 1) := by decide +kernel
theorem dX8_mean_70 : decode cX8_mean 70 = .ok (.lstore_n 2, 1) := by decide +kernel
theorem dX8_mean_71 : decode cX8_mean 71 = .ok (.iinc 4 1, 3) := by decide +kernel
theorem dX8_mean_74 : decode cX8_mean 74 = .ok (.goto (-24), 3) := by decide +kernel
theorem dX8_mean_77 : decode cX8_mean 77 = .ok (.lload_n 2, 1) := by decide +kernel
theorem dX8_mean_78 : decode cX8_mean 78 = .ok (.aload_n 0, 1) := by decide +kernel
theorem dX8_mean_79 : decode cX8_mean 79 = .ok (.getfield 275, 3) := by decide +kernel
theorem dX8_mean_82 : decode cX8_mean 82 = .ok (.iload_n 1, 1) := by decide +kernel
theorem dX8_mean_83 : decode cX8_mean 83 = .ok (.invokestatic 337, 3) := by decide +kernel
theorem dX8_mean_86 : decode cX8_mean 86 = .ok (.lreturn, 1) := by decide +kernel
theorem dX8_needs_0 : decode cX8_needs 0 = .ok (.aload_n 0, 1) := by decide +kernel
theorem dX8_needs_1 : decode cX8_needs 1 = .ok (.iconst 0, 1) := by decide +kernel
theorem dX8_needs_2 : decode cX8_needs 2 = .ok (.putfield 75, 3) := by decide +kernel
theorem dX8_needs_5 : decode cX8_needs 5 = .ok (.aload_n 0, 1) := by decide +kernel
theorem dX8_needs_6 : decode cX8_needs 6 = .ok (.iload_n 1, 1) := by decide +kernel
theorem dX8_needs_7 : decode cX8_needs 7 = .ok (.invokevirtual 294, 3) := by decide +kernel
theorem dX8_needs_10 : decode cX8_needs 10 = .ok (.ifCond .ne 5, 3) := by decide +kernel
theorem dX8_needs_13 : decode cX8_needs 13 = .ok (.iconst (-1), 1) := by decide +kernel
theorem dX8_needs_14 : decode cX8_needs 14 = .ok (.ireturn, 1) := by decide +kernel
theorem dX8_needs_15 : decode cX8_needs 15 = .ok (.aload_n 0, 1) := by decide +kernel
theorem dX8_needs_16 : decode cX8_needs 16 = .ok (.invokevirtual 302, 3) := by decide +kernel
theorem dX8_needs_19 : decode cX8_needs 19 = .ok (.aload_n 0, 1) := by decide +kernel
theorem dX8_needs_20 : decode cX8_needs 20 = .ok (.getfield 208, 3) := by decide +kernel
theorem dX8_needs_23 : decode cX8_needs 23 = .ok (.ifCond .ne 16, 3) := by decide +kernel
theorem dX8_needs_26 : decode cX8_needs 26 = .ok (.aload_n 0, 1) := by decide +kernel
theorem dX8_needs_27 : decode cX8_needs 27 = .ok (.getfield 202, 3) := by decide +kernel
theorem dX8_needs_30 : decode cX8_needs 30 = .ok (.iconst 2, 1) := by decide +kernel
theorem dX8_needs_31 : decode cX8_needs 31 = .ok (.aload_n 0, 1) := by decide +kernel
theorem dX8_needs_32 : decode cX8_needs 32 = .ok (.invokevirtual 190, 3) := by decide +kernel
theorem dX8_needs_35 : decode cX8_needs 35 = .ok (.imul, 1) := by decide +kernel
theorem dX8_needs_36 : decode cX8_needs 36 = .ok (.if_icmp .lt 5, 3) := by decide +kernel
theorem dX8_needs_39 : decode cX8_needs 39 = .ok (.iconst (-1), 1) := by decide +kernel
theorem dX8_needs_40 : decode cX8_needs 40 = .ok (.ireturn, 1) := by decide +kernel
theorem dX8_needs_41 : decode cX8_needs 41 = .ok (.aload_n 0, 1) := by decide +kernel
theorem dX8_needs_42 : decode cX8_needs 42 = .ok (.invokevirtual 190, 3) := by decide +kernel
theorem dX8_needs_45 : decode cX8_needs 45 = .ok (.aload_n 0, 1) := by decide +kernel
theorem dX8_needs_46 : decode cX8_needs 46 = .ok (.getfield 41, 3) := by decide +kernel
theorem dX8_needs_49 : decode cX8_needs 49 = .ok (.iload_n 1, 1) := by decide +kernel
theorem dX8_needs_50 : decode cX8_needs 50 = .ok (.iaload, 1) := by decide +kernel
theorem dX8_needs_51 : decode cX8_needs 51 = .ok (.isub, 1) := by decide +kernel
theorem dX8_needs_52 : decode cX8_needs 52 = .ok (.istore_n 2, 1) := by decide +kernel
theorem dX8_needs_53 : decode cX8_needs 53 = .ok (.aload_n 0, 1) := by decide +kernel
theorem dX8_needs_54 : decode cX8_needs 54 = .ok (.getfield 38, 3) := by decide +kernel
theorem dX8_needs_57 : decode cX8_needs 57 = .ok (.iconst 1, 1) := by decide +kernel
theorem dX8_needs_58 : decode cX8_needs 58 = .ok (.iload_n 1, 1) := by decide +kernel
theorem dX8_needs_59 : decode cX8_needs 59 = .ok (.isub, 1) := by decide +kernel
theorem dX8_needs_60 : decode cX8_needs 60 = .ok (.iaload, 1) := by decide +kernel
theorem dX8_needs_61 : decode cX8_needs 61 = .ok (.aload_n 0, 1) := by decide +kernel
theorem dX8_needs_62 : decode cX8_needs 62 = .ok (.invokevirtual 190, 3) := by decide +kernel
theorem dX8_needs_65 : decode cX8_needs 65 = .ok (.iadd, 1) := by decide +kernel
theorem dX8_needs_66 : decode cX8_needs 66 = .ok (.aload_n 0, 1) := by decide +kernel
theorem dX8_needs_67 : decode cX8_needs 67 = .ok (.getfield 41, 3) := by decide +kernel
theorem dX8_needs_70 : decode cX8_needs 70 = .ok (.iconst 1, 1) := by decide +kernel
theorem dX8_needs_71 : decode cX8_needs 71 = .ok (.iload_n 1, 1) := by decide +kernel
theorem dX8_needs_72 : decode cX8_needs 72 = .ok (.isub, 1) := by decide +kernel
theorem dX8_needs_73 : decode cX8_needs 73 = .ok (.iaload, 1) := by decide +kernel
theorem dX8_needs_74 : decode cX8_needs 74 = .ok (.isub, 1) := by decide +kernel
theorem dX8_needs_75 : decode cX8_needs 75 = .ok (.aload_n 0, 1) := by decide +kernel
theorem dX8_needs_76 : decode cX8_needs 76 = .ok (.getfield 38, 3) := by decide +kernel
theorem dX8_needs_79 : decode cX8_needs 79 = .ok (.iload_n 1, 1) := by decide +kernel
theorem dX8_needs_80 : decode cX8_needs 80 = .ok (.iaload, 1) := by decide +kernel
theorem dX8_needs_81 : decode cX8_needs 81 = .ok (.isub, 1) := by decide +kernel
theorem dX8_needs_82 : decode cX8_needs 82 = .ok (.iconst 1, 1) := by decide +kernel
theorem dX8_needs_83 : decode cX8_needs 83 = .ok (.iadd, 1) := by decide +kernel
theorem dX8_needs_84 : decode cX8_needs 84 = .ok (.istore_n 3, 1) := by decide +kernel
theorem dX8_needs_85 : decode cX8_needs 85 = .ok (.iload_n 3, 1) := by decide +kernel
theorem dX8_needs_86 : decode cX8_needs 86 = .ok (.iload_n 2, 1) := by decide +kernel
theorem dX8_needs_87 : decode cX8_needs 87 = .ok (.if_icmp .le 8, 3) := by decide +kernel
theorem dX8_needs_90 : decode cX8_needs 90 = .ok (.bipush (-2), 2) := by decide +kernel
theorem dX8_needs_92 : decode cX8_needs 92 = .ok (.goto 12, 3) := by decide +kernel
theorem dX8_needs_95 : decode cX8_needs 95 = .ok (.iload_n 3, 1) := by decide +kernel
theorem dX8_needs_96 : decode cX8_needs 96 = .ok (.ifCond .ge 7, 3) := by decide +kernel
theorem dX8_needs_99 : decode cX8_needs 99 = .ok (.iconst 0, 1) := by decide +kernel
theorem dX8_needs_100 : decode cX8_needs 100 = .ok (.goto 4, 3) := by decide +kernel
theorem dX8_needs_103 : decode cX8_needs 103 = .ok (.iload_n 3, 1) := by decide +kernel
theorem dX8_needs_104 : decode cX8_needs 104 = .ok (.ireturn, 1) := by decide +kernel
theorem dX8_digits_0 : decode cX8_digits 0 = .ok (.iconst 0, 1) := by decide +kernel
theorem dX8_digits_1 : decode cX8_digits 1 = .ok (.istore_n 1, 1) := by decide +kernel
theorem dX8_digits_2 : decode cX8_digits 2 = .ok (.iconst 0, 1) := by decide +kernel
theorem dX8_digits_3 : decode cX8_digits 3 = .ok (.istore_n 2, 1) := by decide +kernel
theorem dX8_digits_4 : decode cX8_digits 4 = .ok (.iload_n 2, 1) := by decide +kernel
theorem dX8_digits_5 : decode cX8_digits 5 = .ok (.aload_n 0, 1) := by decide +kernel
theorem dX8_digits_6 : decode cX8_digits 6 = .ok (.invokevirtual 190, 3) := by decide +kernel
theorem dX8_digits_9 : decode cX8_digits 9 = .ok (.if_icmp .ge 21, 3) := by decide +kernel
theorem dX8_digits_12 : decode cX8_digits 12 = .ok (.bipush 10, 2) := by decide +kernel
theorem dX8_digits_14 : decode cX8_digits 14 = .ok (.iload_n 1, 1) := by decide +kernel
theorem dX8_digits_15 : decode cX8_digits 15 = .ok (.imul, 1) := by decide +kernel
theorem dX8_digits_16 : decode cX8_digits 16 = .ok (.aload_n 0, 1) := by decide +kernel
theorem dX8_digits_17 : decode cX8_digits 17 = .ok (.getfield 63, 3) := by decide +kernel
theorem dX8_digits_20 : decode cX8_digits 20 = .ok (.iload_n 2, 1) := by decide +kernel
theorem dX8_digits_21 : decode cX8_digits 21 = .ok (.iaload, 1) := by decide +kernel
theorem dX8_digits_22 : decode cX8_digits 22 = .ok (.iadd, 1) := by decide +kernel
theorem dX8_digits_23 : decode cX8_digits 23 = .ok (.istore_n 1, 1) := by decide +kernel
theorem dX8_digits_24 : decode cX8_digits 24 = .ok (.iinc 2 1, 3) := by decide +kernel
theorem dX8_digits_27 : decode cX8_digits 27 = .ok (.goto (-23), 3) := by decide +kernel
theorem dX8_digits_30 : decode cX8_digits 30 = .ok (.iload_n 1, 1) := by decide +kernel
theorem dX8_digits_31 : decode cX8_digits 31 = .ok (.ireturn, 1) := by decide +kernel
theorem dX8_firstRow_0 : decode cX8_firstRow 0 = .ok (.iconst 0, 1) := by decide +kernel
theorem dX8_firstRow_1 : decode cX8_firstRow 1 = .ok (.istore_n 1, 1) := by decide +kernel
theorem dX8_firstRow_2 : decode cX8_firstRow 2 = .ok (.iload_n 1, 1) := by decide +kernel
theorem dX8_firstRow_3 : decode cX8_firstRow 3 = .ok (.iconst 5, 1) := by decide +kernel
theorem dX8_firstRow_4 : decode cX8_firstRow 4 = .ok (.if_icmp .ge 16, 3) := by decide +kernel
theorem dX8_firstRow_7 : decode cX8_firstRow 7 = .ok (.aload_n 0, 1) := by decide +kernel
theorem dX8_firstRow_8 : decode cX8_firstRow 8 = .ok (.getfield 63, 3) := by decide +kernel
theorem dX8_firstRow_11 : decode cX8_firstRow 11 = .ok (.iload_n 1, 1) := by decide +kernel
theorem dX8_firstRow_12 : decode cX8_firstRow 12 = .ok (.iload_n 1, 1) := by decide +kernel
theorem dX8_firstRow_13 : decode cX8_firstRow 13 = .ok (.iastore, 1) := by decide +kernel
theorem dX8_firstRow_14 : decode cX8_firstRow 14 = .ok (.iinc 1 1, 3) := by decide +kernel
theorem dX8_firstRow_17 : decode cX8_firstRow 17 = .ok (.goto (-15), 3) := by decide +kernel
theorem dX8_firstRow_20 : decode cX8_firstRow 20 = .ok (.return_, 1) := by decide +kernel
theorem dX8_swap_0 : decode cX8_swap 0 = .ok (.aload_n 0, 1) := by decide +kernel
theorem dX8_swap_1 : decode cX8_swap 1 = .ok (.getfield 63, 3) := by decide +kernel
theorem dX8_swap_4 : decode cX8_swap 4 = .ok (.iload_n 1, 1) := by decide +kernel
theorem dX8_swap_5 : decode cX8_swap 5 = .ok (.iaload, 1) := by decide +kernel
theorem dX8_swap_6 : decode cX8_swap 6 = .ok (.istore_n 3, 1) := by decide +kernel
theorem dX8_swap_7 : decode cX8_swap 7 = .ok (.aload_n 0, 1) := by decide +kernel
theorem dX8_swap_8 : decode cX8_swap 8 = .ok (.getfield 63, 3) := by decide +kernel
theorem dX8_swap_11 : decode cX8_swap 11 = .ok (.iload_n 1, 1) := by decide +kernel
theorem dX8_swap_12 : decode cX8_swap 12 = .ok (.aload_n 0, 1) := by decide +kernel
theorem dX8_swap_13 : decode cX8_swap 13 = .ok (.getfield 63, 3) := by decide +kernel
theorem dX8_swap_16 : decode cX8_swap 16 = .ok (.iload_n 2, 1) := by decide +kernel
theorem dX8_swap_17 : decode cX8_swap 17 = .ok (.iaload, 1) := by decide +kernel
theorem dX8_swap_18 : decode cX8_swap 18 = .ok (.iastore, 1) := by decide +kernel
theorem dX8_swap_19 : decode cX8_swap 19 = .ok (.aload_n 0, 1) := by decide +kernel
theorem dX8_swap_20 : decode cX8_swap 20 = .ok (.getfield 63, 3) := by decide +kernel
theorem dX8_swap_23 : decode cX8_swap 23 = .ok (.iload_n 2, 1) := by decide +kernel
theorem dX8_swap_24 : decode cX8_swap 24 = .ok (.iload_n 3, 1) := by decide +kernel
theorem dX8_swap_25 : decode cX8_swap 25 = .ok (.iastore, 1) := by decide +kernel
theorem dX8_swap_26 : decode cX8_swap 26 = .ok (.return_, 1) := by decide +kernel
theorem dX8_nextRow_0 : decode cX8_nextRow 0 = .ok (.aload_n 0, 1) := by decide +kernel
theorem dX8_nextRow_1 : decode cX8_nextRow 1 = .ok (.invokevirtual 190, 3) := by decide +kernel
theorem dX8_nextRow_4 : decode cX8_nextRow 4 = .ok (.istore_n 1, 1) := by decide +kernel
theorem dX8_nextRow_5 : decode cX8_nextRow 5 = .ok (.iload_n 1, 1) := by decide +kernel
theorem dX8_nextRow_6 : decode cX8_nextRow 6 = .ok (.iconst 2, 1) := by decide +kernel
theorem dX8_nextRow_7 : decode cX8_nextRow 7 = .ok (.isub, 1) := by decide +kernel
theorem dX8_nextRow_8 : decode cX8_nextRow 8 = .ok (.istore_n 2, 1) := by decide +kernel
theorem dX8_nextRow_9 : decode cX8_nextRow 9 = .ok (.iload_n 2, 1) := by decide +kernel
theorem dX8_nextRow_10 : decode cX8_nextRow 10 = .ok (.ifCond .lt 26, 3) := by decide +kernel
theorem dX8_nextRow_13 : decode cX8_nextRow 13 = .ok (.aload_n 0, 1) := by decide +kernel
theorem dX8_nextRow_14 : decode cX8_nextRow 14 = .ok (.getfield 63, 3) := by decide +kernel
theorem dX8_nextRow_17 : decode cX8_nextRow 17 = .ok (.iload_n 2, 1) := by decide +kernel
theorem dX8_nextRow_18 : decode cX8_nextRow 18 = .ok (.iaload, 1) := by decide +kernel
theorem dX8_nextRow_19 : decode cX8_nextRow 19 = .ok (.aload_n 0, 1) := by decide +kernel
theorem dX8_nextRow_20 : decode cX8_nextRow 20 = .ok (.getfield 63, 3) := by decide +kernel
theorem dX8_nextRow_23 : decode cX8_nextRow 23 = .ok (.iload_n 2, 1) := by decide +kernel
theorem dX8_nextRow_24 : decode cX8_nextRow 24 = .ok (.iconst 1, 1) := by decide +kernel
theorem dX8_nextRow_25 : decode cX8_nextRow 25 = .ok (.iadd, 1) := by decide +kernel
theorem dX8_nextRow_26 : decode cX8_nextRow 26 = .ok (.iaload, 1) := by decide +kernel
theorem dX8_nextRow_27 : decode cX8_nextRow 27 = .ok (.if_icmp .le 9, 3) := by decide +kernel
theorem dX8_nextRow_30 : decode cX8_nextRow 30 = .ok (.iinc 2 (-1), 3) := by decide +kernel
theorem dX8_nextRow_33 : decode cX8_nextRow 33 = .ok (.goto (-24), 3) := by decide +kernel
theorem dX8_nextRow_36 : decode cX8_nextRow 36 = .ok (.iload_n 2, 1) := by decide +kernel
theorem dX8_nextRow_37 : decode cX8_nextRow 37 = .ok (.ifCond .ge 5, 3) := by decide +kernel
theorem dX8_nextRow_40 : decode cX8_nextRow 40 = .ok (.iconst 0, 1) := by decide +kernel
theorem dX8_nextRow_41 : decode cX8_nextRow 41 = .ok (.ireturn, 1) := by decide +kernel
theorem dX8_nextRow_42 : decode cX8_nextRow 42 = .ok (.iload_n 1, 1) := by decide +kernel
theorem dX8_nextRow_43 : decode cX8_nextRow 43 = .ok (.iconst 1, 1) := by decide +kernel
theorem dX8_nextRow_44 : decode cX8_nextRow 44 = .ok (.isub, 1) := by decide +kernel
theorem dX8_nextRow_45 : decode cX8_nextRow 45 = .ok (.istore_n 3, 1) := by decide +kernel
theorem dX8_nextRow_46 : decode cX8_nextRow 46 = .ok (.aload_n 0, 1) := by decide +kernel
theorem dX8_nextRow_47 : decode cX8_nextRow 47 = .ok (.getfield 63, 3) := by decide +kernel
theorem dX8_nextRow_50 : decode cX8_nextRow 50 = .ok (.iload_n 3, 1) := by decide +kernel
theorem dX8_nextRow_51 : decode cX8_nextRow 51 = .ok (.iaload, 1) := by decide +kernel
theorem dX8_nextRow_52 : decode cX8_nextRow 52 = .ok (.aload_n 0, 1) := by decide +kernel
theorem dX8_nextRow_53 : decode cX8_nextRow 53 = .ok (.getfield 63, 3) := by decide +kernel
theorem dX8_nextRow_56 : decode cX8_nextRow 56 = .ok (.iload_n 2, 1) := by decide +kernel
theorem dX8_nextRow_57 : decode cX8_nextRow 57 = .ok (.iaload, 1) := by decide +kernel
theorem dX8_nextRow_58 : decode cX8_nextRow 58 = .ok (.if_icmp .ge 9, 3) := by decide +kernel
theorem dX8_nextRow_61 : decode cX8_nextRow 61 = .ok (.iinc 3 (-1), 3) := by decide +kernel
theorem dX8_nextRow_64 : decode cX8_nextRow 64 = .ok (.goto (-18), 3) := by decide +kernel
theorem dX8_nextRow_67 : decode cX8_nextRow 67 = .ok (.aload_n 0, 1) := by decide +kernel
theorem dX8_nextRow_68 : decode cX8_nextRow 68 = .ok (.iload_n 2, 1) := by decide +kernel
theorem dX8_nextRow_69 : decode cX8_nextRow 69 = .ok (.iload_n 3, 1) := by decide +kernel
theorem dX8_nextRow_70 : decode cX8_nextRow 70 = .ok (.invokevirtual 358, 3) := by decide +kernel
theorem dX8_nextRow_73 : decode cX8_nextRow 73 = .ok (.iload_n 1, 1) := by decide +kernel
theorem dX8_nextRow_74 : decode cX8_nextRow 74 = .ok (.iconst 1, 1) := by decide +kernel
theorem dX8_nextRow_75 : decode cX8_nextRow 75 = .ok (.isub, 1) := by decide +kernel
theorem dX8_nextRow_76 : decode cX8_nextRow 76 = .ok (.istore 4, 2) := by decide +kernel
theorem dX8_nextRow_78 : decode cX8_nextRow 78 = .ok (.iload_n 2, 1) := by decide +kernel
theorem dX8_nextRow_79 : decode cX8_nextRow 79 = .ok (.iconst 1, 1) := by decide +kernel
theorem dX8_nextRow_80 : decode cX8_nextRow 80 = .ok (.iadd, 1) := by decide +kernel
theorem dX8_nextRow_81 : decode cX8_nextRow 81 = .ok (.istore 5, 2) := by decide +kernel
theorem dX8_nextRow_83 : decode cX8_nextRow 83 = .ok (.iload 5, 2) := by decide +kernel
theorem dX8_nextRow_85 : decode cX8_nextRow 85 = .ok (.iload 4, 2) := by decide +kernel
theorem dX8_nextRow_87 : decode cX8_nextRow 87 = .ok (.if_icmp .ge 20, 3) := by decide +kernel
theorem dX8_nextRow_90 : decode cX8_nextRow 90 = .ok (.aload_n 0, 1) := by decide +kernel
theorem dX8_nextRow_91 : decode cX8_nextRow 91 = .ok (.iload 5, 2) := by decide +kernel
theorem dX8_nextRow_93 : decode cX8_nextRow 93 = .ok (.iload 4, 2) := by decide +kernel
theorem dX8_nextRow_95 : decode cX8_nextRow 95 = .ok (.invokevirtual 358, 3) := by decide +kernel
theorem dX8_nextRow_98 : decode cX8_nextRow 98 = .ok (.iinc 4 (-1), 3) := by decide +kernel
theorem dX8_nextRow_101 : decode cX8_nextRow 101 = .ok (.iinc 5 1, 3) := by decide +kernel
theorem dX8_nextRow_104 : decode cX8_nextRow 104 = .ok (.goto (-21), 3) := by decide +kernel
theorem dX8_nextRow_107 : decode cX8_nextRow 107 = .ok (.iconst 1, 1) := by decide +kernel
theorem dX8_nextRow_108 : decode cX8_nextRow 108 = .ok (.ireturn, 1) := by decide +kernel
theorem dX8_putRow_0 : decode cX8_putRow 0 = .ok (.iconst 0, 1) := by decide +kernel
theorem dX8_putRow_1 : decode cX8_putRow 1 = .ok (.istore_n 2, 1) := by decide +kernel
theorem dX8_putRow_2 : decode cX8_putRow 2 = .ok (.iload_n 2, 1) := by decide +kernel
theorem dX8_putRow_3 : decode cX8_putRow 3 = .ok (.aload_n 0, 1) := by decide +kernel
theorem dX8_putRow_4 : decode cX8_putRow 4 = .ok (.invokevirtual 190, 3) := by decide +kernel
theorem dX8_putRow_7 : decode cX8_putRow 7 = .ok (.if_icmp .ge 37, 3) := by decide +kernel
theorem dX8_putRow_10 : decode cX8_putRow 10 = .ok (.aload_n 0, 1) := by decide +kernel
theorem dX8_putRow_11 : decode cX8_putRow 11 = .ok (.getfield 35, 3) := by decide +kernel
theorem dX8_putRow_14 : decode cX8_putRow 14 = .ok (.iconst 5, 1) := by decide +kernel
theorem dX8_putRow_15 : decode cX8_putRow 15 = .ok (.iload_n 1, 1) := by decide +kernel
theorem dX8_putRow_16 : decode cX8_putRow 16 = .ok (.imul, 1) := by decide +kernel
theorem dX8_putRow_17 : decode cX8_putRow 17 = .ok (.iload_n 2, 1) := by decide +kernel
theorem dX8_putRow_18 : decode cX8_putRow 18 = .ok (.iadd, 1) := by decide +kernel
theorem dX8_putRow_19 : decode cX8_putRow 19 = .ok (.aload_n 0, 1) := by decide +kernel
theorem dX8_putRow_20 : decode cX8_putRow 20 = .ok (.getfield 9, 3) := by decide +kernel
theorem dX8_putRow_23 : decode cX8_putRow 23 = .ok (.bipush 8, 2) := by decide +kernel
theorem dX8_putRow_25 : decode cX8_putRow 25 = .ok (.iconst 5, 1) := by decide +kernel
theorem dX8_putRow_26 : decode cX8_putRow 26 = .ok (.iload_n 1, 1) := by decide +kernel
theorem dX8_putRow_27 : decode cX8_putRow 27 = .ok (.imul, 1) := by decide +kernel
theorem dX8_putRow_28 : decode cX8_putRow 28 = .ok (.iadd, 1) := by decide +kernel
theorem dX8_putRow_29 : decode cX8_putRow 29 = .ok (.aload_n 0, 1) := by decide +kernel
theorem dX8_putRow_30 : decode cX8_putRow 30 = .ok (.getfield 63, 3) := by decide +kernel
theorem dX8_putRow_33 : decode cX8_putRow 33 = .ok (.iload_n 2, 1) := by decide +kernel
theorem dX8_putRow_34 : decode cX8_putRow 34 = .ok (.iaload, 1) := by decide +kernel
theorem dX8_putRow_35 : decode cX8_putRow 35 = .ok (.iadd, 1) := by decide +kernel
theorem dX8_putRow_36 : decode cX8_putRow 36 = .ok (.iaload, 1) := by decide +kernel
theorem dX8_putRow_37 : decode cX8_putRow 37 = .ok (.iastore, 1) := by decide +kernel
theorem dX8_putRow_38 : decode cX8_putRow 38 = .ok (.iinc 2 1, 3) := by decide +kernel
theorem dX8_putRow_41 : decode cX8_putRow 41 = .ok (.goto (-39), 3) := by decide +kernel
theorem dX8_putRow_44 : decode cX8_putRow 44 = .ok (.return_, 1) := by decide +kernel
theorem dX8_oddsByRow_0 : decode cX8_oddsByRow 0 = .ok (.aload_n 0, 1) := by decide +kernel
theorem dX8_oddsByRow_1 : decode cX8_oddsByRow 1 = .ok (.invokevirtual 211, 3) := by decide +kernel
theorem dX8_oddsByRow_4 : decode cX8_oddsByRow 4 = .ok (.aload_n 0, 1) := by decide +kernel
theorem dX8_oddsByRow_5 : decode cX8_oddsByRow 5 = .ok (.iload_n 1, 1) := by decide +kernel
theorem dX8_oddsByRow_6 : decode cX8_oddsByRow 6 = .ok (.invokevirtual 361, 3) := by decide +kernel
theorem dX8_oddsByRow_9 : decode cX8_oddsByRow 9 = .ok (.aload_n 0, 1) := by decide +kernel
theorem dX8_oddsByRow_10 : decode cX8_oddsByRow 10 = .ok (.iload_n 1, 1) := by decide +kernel
theorem dX8_oddsByRow_11 : decode cX8_oddsByRow 11 = .ok (.invokevirtual 334, 3) := by decide +kernel
theorem dX8_oddsByRow_14 : decode cX8_oddsByRow 14 = .ok (.return_, 1) := by decide +kernel
theorem dX8_readRow_0 : decode cX8_readRow 0 = .ok (.iconst 0, 1) := by decide +kernel
theorem dX8_readRow_1 : decode cX8_readRow 1 = .ok (.istore_n 2, 1) := by decide +kernel
theorem dX8_readRow_2 : decode cX8_readRow 2 = .ok (.iload_n 1, 1) := by decide +kernel
theorem dX8_readRow_3 : decode cX8_readRow 3 = .ok (.istore_n 3, 1) := by decide +kernel
theorem dX8_readRow_4 : decode cX8_readRow 4 = .ok (.aload_n 0, 1) := by decide +kernel
theorem dX8_readRow_5 : decode cX8_readRow 5 = .ok (.invokevirtual 190, 3) := by decide +kernel
theorem dX8_readRow_8 : decode cX8_readRow 8 = .ok (.iconst 1, 1) := by decide +kernel
theorem dX8_readRow_9 : decode cX8_readRow 9 = .ok (.isub, 1) := by decide +kernel
theorem dX8_readRow_10 : decode cX8_readRow 10 = .ok (.istore 4, 2) := by decide +kernel
theorem dX8_readRow_12 : decode cX8_readRow 12 = .ok (.iload 4, 2) := by decide +kernel
theorem dX8_readRow_14 : decode cX8_readRow 14 = .ok (.ifCond .lt 34, 3) := by decide +kernel
theorem dX8_readRow_17 : decode cX8_readRow 17 = .ok (.aload_n 0, 1) := by decide +kernel
theorem dX8_readRow_18 : decode cX8_readRow 18 = .ok (.getfield 63, 3) := by decide +kernel
theorem dX8_readRow_21 : decode cX8_readRow 21 = .ok (.iload 4, 2) := by decide +kernel
theorem dX8_readRow_23 : decode cX8_readRow 23 = .ok (.iload_n 3, 1) := by decide +kernel
theorem dX8_readRow_24 : decode cX8_readRow 24 = .ok (.bipush 10, 2) := by decide +kernel
theorem dX8_readRow_26 : decode cX8_readRow 26 = .ok (.irem, 1) := by decide +kernel
theorem dX8_readRow_27 : decode cX8_readRow 27 = .ok (.iastore, 1) := by decide +kernel
theorem dX8_readRow_28 : decode cX8_readRow 28 = .ok (.iload_n 2, 1) := by decide +kernel
theorem dX8_readRow_29 : decode cX8_readRow 29 = .ok (.iconst 1, 1) := by decide +kernel
theorem dX8_readRow_30 : decode cX8_readRow 30 = .ok (.iload_n 3, 1) := by decide +kernel
theorem dX8_readRow_31 : decode cX8_readRow 31 = .ok (.bipush 10, 2) := by decide +kernel
theorem dX8_readRow_33 : decode cX8_readRow 33 = .ok (.irem, 1) := by decide +kernel
theorem dX8_readRow_34 : decode cX8_readRow 34 = .ok (.ishl, 1) := by decide +kernel
theorem dX8_readRow_35 : decode cX8_readRow 35 = .ok (.ior, 1) := by decide +kernel
theorem dX8_readRow_36 : decode cX8_readRow 36 = .ok (.istore_n 2, 1) := by decide +kernel
theorem dX8_readRow_37 : decode cX8_readRow 37 = .ok (.iload_n 3, 1) := by decide +kernel
theorem dX8_readRow_38 : decode cX8_readRow 38 = .ok (.bipush 10, 2) := by decide +kernel
theorem dX8_readRow_40 : decode cX8_readRow 40 = .ok (.idiv, 1) := by decide +kernel
theorem dX8_readRow_41 : decode cX8_readRow 41 = .ok (.istore_n 3, 1) := by decide +kernel
theorem dX8_readRow_42 : decode cX8_readRow 42 = .ok (.iinc 4 (-1), 3) := by decide +kernel
theorem dX8_readRow_45 : decode cX8_readRow 45 = .ok (.goto (-33), 3) := by decide +kernel
theorem dX8_readRow_48 : decode cX8_readRow 48 = .ok (.iload_n 3, 1) := by decide +kernel
theorem dX8_readRow_49 : decode cX8_readRow 49 = .ok (.ifCond .ne 19, 3) := by decide +kernel
theorem dX8_readRow_52 : decode cX8_readRow 52 = .ok (.iload_n 2, 1) := by decide +kernel
theorem dX8_readRow_53 : decode cX8_readRow 53 = .ok (.iconst 1, 1) := by decide +kernel
theorem dX8_readRow_54 : decode cX8_readRow 54 = .ok (.aload_n 0, 1) := by decide +kernel
theorem dX8_readRow_55 : decode cX8_readRow 55 = .ok (.invokevirtual 190, 3) := by decide +kernel
theorem dX8_readRow_58 : decode cX8_readRow 58 = .ok (.ishl, 1) := by decide +kernel
theorem dX8_readRow_59 : decode cX8_readRow 59 = .ok (.iconst 1, 1) := by decide +kernel
theorem dX8_readRow_60 : decode cX8_readRow 60 = .ok (.isub, 1) := by decide +kernel
theorem dX8_readRow_61 : decode cX8_readRow 61 = .ok (.if_icmp .ne 7, 3) := by decide +kernel
theorem dX8_readRow_64 : decode cX8_readRow 64 = .ok (.iconst 1, 1) := by decide +kernel
theorem dX8_readRow_65 : decode cX8_readRow 65 = .ok (.goto 4, 3) := by decide +kernel
theorem dX8_readRow_68 : decode cX8_readRow 68 = .ok (.iconst 0, 1) := by decide +kernel
theorem dX8_readRow_69 : decode cX8_readRow 69 = .ok (.ireturn, 1) := by decide +kernel
theorem dX8_oddsOf_0 : decode cX8_oddsOf 0 = .ok (.aload_n 0, 1) := by decide +kernel
theorem dX8_oddsOf_1 : decode cX8_oddsOf 1 = .ok (.iconst 0, 1) := by decide +kernel
theorem dX8_oddsOf_2 : decode cX8_oddsOf 2 = .ok (.putfield 75, 3) := by decide +kernel
theorem dX8_oddsOf_5 : decode cX8_oddsOf 5 = .ok (.aload_n 0, 1) := by decide +kernel
theorem dX8_oddsOf_6 : decode cX8_oddsOf 6 = .ok (.iload_n 1, 1) := by decide +kernel
theorem dX8_oddsOf_7 : decode cX8_oddsOf 7 = .ok (.invokevirtual 294, 3) := by decide +kernel
theorem dX8_oddsOf_10 : decode cX8_oddsOf 10 = .ok (.ifCond .eq 25, 3) := by decide +kernel
theorem dX8_oddsOf_13 : decode cX8_oddsOf 13 = .ok (.iload_n 3, 1) := by decide +kernel
theorem dX8_oddsOf_14 : decode cX8_oddsOf 14 = .ok (.i2l, 1) := by decide +kernel
theorem dX8_oddsOf_15 : decode cX8_oddsOf 15 = .ok (.lconst 0, 1) := by decide +kernel
theorem dX8_oddsOf_16 : decode cX8_oddsOf 16 = .ok (.lconst 1, 1) := by decide +kernel
theorem dX8_oddsOf_17 : decode cX8_oddsOf 17 = .ok (.invokestatic 79, 3) := by decide +kernel
theorem dX8_oddsOf_20 : decode cX8_oddsOf 20 = .ok (.ifCond .eq 15, 3) := by decide +kernel
theorem dX8_oddsOf_23 : decode cX8_oddsOf 23 = .ok (.iload_n 2, 1) := by decide +kernel
theorem dX8_oddsOf_24 : decode cX8_oddsOf 24 = .ok (.ifCond .lt 11, 3) := by decide +kernel
theorem dX8_oddsOf_27 : decode cX8_oddsOf 27 = .ok (.aload_n 0, 1) := by decide +kernel
theorem dX8_oddsOf_28 : decode cX8_oddsOf 28 = .ok (.iload_n 2, 1) := by decide +kernel
theorem dX8_oddsOf_29 : decode cX8_oddsOf 29 = .ok (.invokevirtual 364, 3) := by decide +kernel
theorem dX8_oddsOf_32 : decode cX8_oddsOf 32 = .ok (.ifCond .ne 7, 3) := by decide +kernel
theorem dX8_oddsOf_35 : decode cX8_oddsOf 35 = .ok (.ldc2_w 332, 3) := by decide +kernel
theorem dX8_oddsOf_38 : decode cX8_oddsOf 38 = .ok (.lreturn, 1) := by decide +kernel
theorem dX8_oddsOf_39 : decode cX8_oddsOf 39 = .ok (.aload_n 0, 1) := by decide +kernel
theorem dX8_oddsOf_40 : decode cX8_oddsOf 40 = .ok (.iload_n 1, 1) := by decide +kernel
theorem dX8_oddsOf_41 : decode cX8_oddsOf 41 = .ok (.invokevirtual 367, 3) := by decide +kernel
theorem dX8_oddsOf_44 : decode cX8_oddsOf 44 = .ok (.aload_n 0, 1) := by decide +kernel
theorem dX8_oddsOf_45 : decode cX8_oddsOf 45 = .ok (.getfield 278, 3) := by decide +kernel
theorem dX8_oddsOf_48 : decode cX8_oddsOf 48 = .ok (.aload_n 0, 1) := by decide +kernel
theorem dX8_oddsOf_49 : decode cX8_oddsOf 49 = .ok (.getfield 281, 3) := by decide +kernel
theorem dX8_oddsOf_52 : decode cX8_oddsOf 52 = .ok (.iload_n 3, 1) := by decide +kernel
theorem dX8_oddsOf_53 : decode cX8_oddsOf 53 = .ok (.invokestatic 337, 3) := by decide +kernel
theorem dX8_oddsOf_56 : decode cX8_oddsOf 56 = .ok (.lreturn, 1) := by decide +kernel
theorem dX8_best_0 : decode cX8_best 0 = .ok (.aload_n 0, 1) := by decide +kernel
theorem dX8_best_1 : decode cX8_best 1 = .ok (.iconst 0, 1) := by decide +kernel
theorem dX8_best_2 : decode cX8_best 2 = .ok (.putfield 75, 3) := by decide +kernel
theorem dX8_best_5 : decode cX8_best 5 = .ok (.aload_n 0, 1) := by decide +kernel
theorem dX8_best_6 : decode cX8_best 6 = .ok (.iload_n 1, 1) := by decide +kernel
theorem dX8_best_7 : decode cX8_best 7 = .ok (.invokevirtual 294, 3) := by decide +kernel
theorem dX8_best_10 : decode cX8_best 10 = .ok (.ifCond .ne 5, 3) := by decide +kernel
theorem dX8_best_13 : decode cX8_best 13 = .ok (.iconst (-1), 1) := by decide +kernel
theorem dX8_best_14 : decode cX8_best 14 = .ok (.ireturn, 1) := by decide +kernel
theorem dX8_best_15 : decode cX8_best 15 = .ok (.aload_n 0, 1) := by decide +kernel
theorem dX8_best_16 : decode cX8_best 16 = .ok (.invokevirtual 370, 3) := by decide +kernel
theorem dX8_best_19 : decode cX8_best 19 = .ok (.iconst (-1), 1) := by decide +kernel
theorem dX8_best_20 : decode cX8_best 20 = .ok (.istore_n 2, 1) := by decide +kernel
theorem dX8_best_21 : decode cX8_best 21 = .ok (.lconst 0, 1) := by decide +kernel
theorem dX8_best_22 : decode cX8_best 22 = .ok (.lstore_n 3, 1) := by decide +kernel
theorem dX8_best_23 : decode cX8_best 23 = .ok (.lconst 1, 1) := by decide +kernel
theorem dX8_best_24 : decode cX8_best 24 = .ok (.lstore 5, 2) := by decide +kernel
theorem dX8_best_26 : decode cX8_best 26 = .ok (.iconst 1, 1) := by decide +kernel
theorem dX8_best_27 : decode cX8_best 27 = .ok (.istore 7, 2) := by decide +kernel
theorem dX8_best_29 : decode cX8_best 29 = .ok (.iload 7, 2) := by decide +kernel
theorem dX8_best_31 : decode cX8_best 31 = .ok (.ifCond .eq 55, 3) := by decide +kernel
theorem dX8_best_34 : decode cX8_best 34 = .ok (.aload_n 0, 1) := by decide +kernel
theorem dX8_best_35 : decode cX8_best 35 = .ok (.iload_n 1, 1) := by decide +kernel
theorem dX8_best_36 : decode cX8_best 36 = .ok (.invokevirtual 367, 3) := by decide +kernel
theorem dX8_best_39 : decode cX8_best 39 = .ok (.iload_n 2, 1) := by decide +kernel
theorem dX8_best_40 : decode cX8_best 40 = .ok (.iconst (-1), 1) := by decide +kernel
theorem dX8_best_41 : decode cX8_best 41 = .ok (.if_icmp .eq 20, 3) := by decide +kernel
theorem dX8_best_44 : decode cX8_best 44 = .ok (.aload_n 0, 1) := by decide +kernel
theorem dX8_best_45 : decode cX8_best 45 = .ok (.getfield 278, 3) := by decide +kernel
theorem dX8_best_48 : decode cX8_best 48 = .ok (.aload_n 0, 1) := by decide +kernel
theorem dX8_best_49 : decode cX8_best 49 = .ok (.getfield 281, 3) := by decide +kernel
theorem dX8_best_52 : decode cX8_best 52 = .ok (.lload_n 3, 1) := by decide +kernel
theorem dX8_best_53 : decode cX8_best 53 = .ok (.lload 5, 2) := by decide +kernel
theorem dX8_best_55 : decode cX8_best 55 = .ok (.invokestatic 349, 3) := by decide +kernel
theorem dX8_best_58 : decode cX8_best 58 = .ok (.ifCond .le 19, 3) := by decide +kernel
theorem dX8_best_61 : decode cX8_best 61 = .ok (.aload_n 0, 1) := by decide +kernel
theorem dX8_best_62 : decode cX8_best 62 = .ok (.invokevirtual 373, 3) := by decide +kernel
theorem dX8_best_65 : decode cX8_best 65 = .ok (.istore_n 2, 1) := by decide +kernel
theorem dX8_best_66 : decode cX8_best 66 = .ok (.aload_n 0, 1) := by decide +kernel
theorem dX8_best_67 : decode cX8_best 67 = .ok (.getfield 278, 3) := by decide +kernel
theorem dX8_best_70 : decode cX8_best 70 = .ok (.lstore_n 3, 1) := by decide +kernel
theorem dX8_best_71 : decode cX8_best 71 = .ok (.aload_n 0, 1) := by decide +kernel
theorem dX8_best_72 : decode cX8_best 72 = .ok (.getfield 281, 3) := by decide +kernel
theorem dX8_best_75 : decode cX8_best 75 = .ok (.lstore 5, 2) := by decide +kernel
theorem dX8_best_77 : decode cX8_best 77 = .ok (.aload_n 0, 1) := by decide +kernel
theorem dX8_best_78 : decode cX8_best 78 = .ok (.invokevirtual 376, 3) := by decide +kernel
theorem dX8_best_81 : decode cX8_best 81 = .ok (.istore 7, 2) := by decide +kernel
